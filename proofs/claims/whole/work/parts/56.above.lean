theorem mAboveL {B : Bk} (G : GB B) {N d s t : Nat} {w : Wd} {F : Wd → Int32 → Int32 → Option (Wd × Int32)} (R : RM B w) (hs : s < nB B) (ht : t < nB B) : ∀ n j, j ≤ 8 → 8 < n + j →
    ((∀ v, j ≤ v → v < 8 → ctB B t v ≤ ctB B s v) → ∃ n2, fX11_isAbove_2 N d F n w (nI s) (nI t) (nI j) = bX11_isAbove_2 N d F (fX11_isAbove_2 N d F n2) w (nI s) (nI t) 8) ∧
    (¬ (∀ v, j ≤ v → v < 8 → ctB B t v ≤ ctB B s v) → fX11_isAbove_2 N d F n w (nI s) (nI t) (nI j) = some (w, 0)) := by
  have g1 := G.1
  intro n
  induction n with
  | zero => intro j h1 h2; omega
  | succ n ih =>
    intro j h1 h2
    have key : fX11_isAbove_2 N d F (n + 1) w (nI s) (nI t) (nI j) = bX11_isAbove_2 N d F (fX11_isAbove_2 N d F n) w (nI s) (nI t) (nI j) := rfl
    by_cases e : j = 8
    · exact ⟨fun _ => ⟨n, by rw [key, e]; rfl⟩, fun h => absurd (fun v h1 h2 => by omega) h⟩
    · rw [key]
      have cs := (G.sz_le hs).2.2.2 j (by omega)
      have ct := (G.sz_le ht).2.2.2 j (by omega)
      have es : ∀ K : Int64 → Option (Wd × Int32), c_ll w 8 8000 (8 * nI s + nI j) K = K (lN (ctB B s j)) := fun K => by
        rw [show (8 : Int32) = nI 8 from rfl, pk_mul, nI_add, ll_n (by omega) (by omega), R.2.2.2.2.2 s hs j (by omega)]
      have et : ∀ K : Int64 → Option (Wd × Int32), c_ll w 8 8000 (8 * nI t + nI j) K = K (lN (ctB B t j)) := fun K => by
        rw [show (8 : Int32) = nI 8 from rfl, pk_mul, nI_add, ll_n (by omega) (by omega), R.2.2.2.2.2 t ht j (by omega)]
      have step : bX11_isAbove_2 N d F (fX11_isAbove_2 N d F n) w (nI s) (nI t) (nI j) = if ctB B t j ≤ ctB B s j then fX11_isAbove_2 N d F n w (nI s) (nI t) (nI (j + 1)) else some (w, 0) := by
        unfold bX11_isAbove_2
        rw [if_neg (fun z => e (by rw [show (8 : Int32) = nI 8 from rfl, nI_leI (by omega) (by omega)] at z; omega)), et, es]
        simp only [c_nm, lc_le (show ctB B t j < 2 ^ 63 by omega) (show ctB B s j < 2 ^ 63 by omega), nI_1]
      rw [step]
      obtain ⟨i1, i2⟩ := ih (j + 1) (by omega) (by omega)
      by_cases q : ctB B t j ≤ ctB B s j
      · rw [if_pos q]
        refine ⟨fun h => i1 (fun v h1 h2 => h v (by omega) h2), fun h => i2 (fun h3 => h (fun v h4 h5 => ?_))⟩
        by_cases ev : v = j
        · rw [ev]; exact q
        · exact h3 v (by omega) h5
      · rw [if_neg q]
        exact ⟨fun h => absurd (h j (by omega) (by omega)) q, fun _ => rfl⟩
theorem sg_lt : ∀ h, h < 10 → ∀ k, k < 10 → (sg h ≤ sg k ↔ h ≤ k) := by decide +kernel
theorem bo01 {Z : Type} {v : Int32} {K : Option Z} (h : v = 0 ∨ v = 1) : c_bo v K = K := by unfold c_bo; rw [if_pos h]
/-- both sides ask alike which term is above -/
theorem above2 {B : Bk} (G : GB B) {N : Nat} {wm : Wd} (rm : RM B wm) (hN : 2000000 ≤ N) : ∀ k dc dm s t lev wc, RB B wc → s < nB B → t < nB B → szB B s ≤ k → szB B t ≤ 30 → lev + k ≤ 31 → k ≤ 30 →
    ∃ f r, eX0_isAbove N (dc + k + 33) wc (nI s) (nI t) (nI lev) = some (pA wc 30 f, r) ∧ eX11_isAbove N (dm + k + 3) wm (nI s) (nI t) = some (wm, r) ∧ (r = 0 ∨ r = 1) := by
  have g1 := G.1
  intro k
  induction k with
  | zero => intro dc dm s t lev wc R hs; intros; have := (G.sz_le hs).2.1; omega
  | succ k ih =>
    intro dc dm s t lev wc R hs ht zs zt hl hk
    have key : eX0_isAbove N (dc + (k + 1) + 33) wc (nI s) (nI t) (nI lev) = bX0_isAbove_0 N (dc + k + 33) (eX0_isAbove N (dc + k + 33)) wc (nI s) (nI t) (nI lev) := rfl
    have key2 : eX11_isAbove N (dm + (k + 1) + 3) wm (nI s) (nI t) = fX11_isAbove_2 N (dm + k + 3) (eX11_isAbove N (dm + k + 3)) N wm (nI s) (nI t) (nI 0) := rfl
    rw [key, key2]
    obtain ⟨l1, l2⟩ := mAboveL G (N := N) (d := dm + k + 3) (F := eX11_isAbove N (dm + k + 3)) rm hs ht N 0 (by omega) (by omega)
    have ws := (G.sz_le hs).2.2.1
    have wt := (G.sz_le ht).2.2.1
    have als := G.a_le hs
    have alt := G.a_le ht
    have ms := rm.2.2.2.2.1 s hs
    have mt := rm.2.2.2.2.1 t ht
    have mws : ∀ K : Int64 → Option (Wd × Int32), c_ll wm 7 1000 (nI s) K = K (lN (wgB B s)) := fun K => by rw [ll_n (by omega) (by omega), ms.2.2.2.2]
    have mwt : ∀ K : Int64 → Option (Wd × Int32), c_ll wm 7 1000 (nI t) K = K (lN (wgB B t)) := fun K => by rw [ll_n (by omega) (by omega), mt.2.2.2.2]
    have mhs : ∀ K : Int32 → Option (Wd × Int32), c_ld wm 3 1000 (nI s) K = K (sg (hB B s)) := fun K => by rw [ld_n (by omega) (by omega), ms.1]
    have mht : ∀ K : Int32 → Option (Wd × Int32), c_ld wm 3 1000 (nI t) K = K (sg (hB B t)) := fun K => by rw [ld_n (by omega) (by omega), mt.1]
    have mvs : eX11_isVariable N (dm + k + 3) wm (nI s) = some (wm, if hB B s < 10 then 0 else 1) := mIsVar G rm hs
    have mvt : eX11_isVariable N (dm + k + 3) wm (nI t) = some (wm, if hB B t < 10 then 0 else 1) := mIsVar G rm ht
    have mps : eX11_parts N (dm + k + 3) wm (nI s) = some (wm, nI (npB B s)) := mParts G rm hs
    have m0s : eX11_partOf N (dm + k + 3) wm (nI s) (nI 0) = some (wm, eN (aB B s)) := mPartOf0 G rm hs
    have m0t : eX11_partOf N (dm + k + 3) wm (nI t) (nI 0) = some (wm, eN (aB B t)) := mPartOf0 G rm ht
    have m1s : eX11_partOf N (dm + k + 3) wm (nI s) (nI 1) = some (wm, eN (bB B s)) := mPartOf1 (by decide) G rm hs
    have m1t : eX11_partOf N (dm + k + 3) wm (nI t) (nI 1) = some (wm, eN (bB B t)) := mPartOf1 (by decide) G rm ht
    have hwE : (lg_cmp (lN (wgB B s)) (lN (wgB B t)) = 0) ↔ wgB B s = wgB B t := by rw [lg_cmp_eq, pk_lEQ (by omega) (by omega)]
    have hwL : (lg_cmp (lN (wgB B s)) (lN (wgB B t)) ≤ 0) ↔ wgB B s ≤ wgB B t := lc_le (by omega) (by omega)
    have hsE : sg (hB B s) = sg (hB B t) ↔ hB B s = hB B t := ⟨fun h => (sg_all _ als.2.2).2.2.2.1 _ alt.2.2 h, fun h => by rw [h]⟩
    -- the reference's loop over the parts
    have parts : ∀ n j, fX11_isAbove_148 N (dm + k + 3) (eX11_isAbove N (dm + k + 3)) (n + 1) wm (nI s) (nI t) j = bX11_isAbove_148 N (dm + k + 3) (eX11_isAbove N (dm + k + 3)) (fX11_isAbove_148 N (dm + k + 3) (eX11_isAbove N (dm + k + 3)) n) wm (nI s) (nI t) j := fun n j => rfl
    obtain ⟨N2, hN2⟩ : ∃ N2, N = N2 + 1 + 1 + 1 := ⟨N - 3, by omega⟩
    have nps := (G.np hs).1
    unfold bX0_isAbove_0
    by_cases e : s = t
    · -- the same term
      rw [if_pos (by rw [e])]
      refine ⟨aI wc 30, 0, by rw [pA_eta]; rfl, ?_, Or.inl rfl⟩
      obtain ⟨n2, h2⟩ := l1 (fun v _ _ => by rw [e]; exact Nat.le_refl _)
      rw [h2]
      unfold bX11_isAbove_2 bX11_isAbove_96 bX11_isAbove_109
      rw [if_pos (by decide), mws, mwt, if_pos (hwE.mpr (by rw [e])), mvs, cl_s, mvt, cl_s, mhs, mht, if_pos (hsE.mpr (by rw [e]))]
      by_cases q : hB B s < 10
      · have q2 : hB B t < 10 := by rw [← e]; exact q
        rw [if_pos q, if_pos i00, if_pos q2, if_pos i00]
        have pp : ∀ n j, j ≤ 2 → 2 < n + j → fX11_isAbove_148 N (dm + k + 3) (eX11_isAbove N (dm + k + 3)) n wm (nI s) (nI t) (nI j) = some (wm, 0) := by
          intro n
          induction n with
          | zero => intro j h1 h2; omega
          | succ n ihn =>
            intro j h1 h2
            rw [parts]
            unfold bX11_isAbove_148
            rw [mps, cl_s]
            by_cases qj : npB B s ≤ j
            · rw [if_pos ((nI_leI (by omega) (by omega)).mpr qj)]
            · rw [if_neg (fun z => qj ((nI_leI (by omega) (by omega)).mp z))]
              have hj : j = 0 ∨ j = 1 := by omega
              rcases hj with hj | hj
              · rw [hj, m0s, cl_s, m0t, cl_s, if_pos (by rw [e])]
                simp only [c_nm, nI_1]
                exact ihn 1 (by omega) (by omega)
              · rw [hj, m1s, cl_s, m1t, cl_s, if_pos (by rw [e])]
                simp only [c_nm, nI_1]
                exact ihn 2 (by omega) (by omega)
        exact pp N 0 (by omega) (by omega)
      · rw [if_neg q, if_neg i10, mvs, cl_s, if_neg q, if_neg i10]
        exact bo01 (Or.inl rfl)
    · rw [if_neg (fun z => e ((nI_eq (by omega) (by omega)).mp z)), if_neg (fun z => by rw [show (30 : Int32) = nI 30 from rfl, nI_ltI (by omega) (by omega)] at z; omega)]
      obtain ⟨f, c1, c2⟩ := cHas G (N := N) (d := dc + k + 1) R hN hs ht (by omega) zt
      by_cases hle : lev8 B s t
      · have c3 : eX0_hasVariablesOf N (dc + k + 33) wc (nI s) (nI t) = some (pA wc 30 f, 1) := c1 hle
        obtain ⟨n2, h2⟩ := l1 (fun v _ hv => hle v hv)
        rw [c3, cl_s, if_neg i10, h2]
        have R2 : RB B (pA wc 30 f) := R
        have rs := R2.2.2.2.1 s hs
        have rt := R2.2.2.2.1 t ht
        have L : ∀ {i : Nat} {x : Nat} (K : Int32 → Option (Wd × Int32)), x < nB B → c_ld (pA wc 30 f) i 1000 (nI x) K = K (aI (pA wc 30 f) i x) := fun K hx => ld_n (by omega) (by omega)
        have LL : ∀ {i : Nat} {x : Nat} (K : Int64 → Option (Wd × Int32)), x < nB B → c_ll (pA wc 30 f) i 1000 (nI x) K = K (aL (pA wc 30 f) i x) := fun K hx => ll_n (by omega) (by omega)
        unfold bX11_isAbove_2 bX0_isAbove_71 bX0_isAbove_94 bX0_isAbove_110 bX0_isAbove_158 bX11_isAbove_79 bX11_isAbove_96 bX11_isAbove_109 bX11_isAbove_145
        rw [if_pos (show (8 : Int32) ≤ 8 by decide)]
        simp only [L _ hs, L _ ht, LL _ hs, LL _ ht, rs.1, rs.2.1, rs.2.2.1, rs.2.2.2.2, rt.1, rt.2.1, rt.2.2.1, rt.2.2.2.2, mws, mwt, mhs, mht, hwE, hwL, hsE, cIsVar G R2 hs, cIsVar G R2 ht, mvs, mvt, cl_s]
        by_cases qw : wgB B s = wgB B t
        · simp only [qw, if_true]
          by_cases q1 : hB B s < 10
          · by_cases q2 : hB B t < 10
            · simp only [q1, q2, if_true, sg_lt _ q1 _ q2]
              have hh : nI (hB B s) = nI (hB B t) ↔ hB B s = hB B t := nI_eq (by omega) (by omega)
              have hhl : nI (hB B s) ≤ nI (hB B t) ↔ hB B s ≤ hB B t := nI_leI (by omega) (by omega)
              have haE : eN (aB B s) = eN (aB B t) ↔ aB B s = aB B t := eN_eq als.1 alt.1
              have hbE : eN (bB B s) = eN (bB B t) ↔ bB B s = bB B t := eN_eq als.2.1 alt.2.1
              simp only [hh, hhl, haE]
              by_cases q3 : hB B s = hB B t
              · have npe : npB B s = npB B t := by unfold npB; rw [q3]
                simp only [q3, if_true]
                by_cases q4 : aB B s = aB B t
                · have q5 : ¬ bB B s = bB B t := fun z => e (G.2.2.2.2.2.1 s t hs ht q3 q4 z)
                  have n2s : 2 ≤ npB B s := by
                    apply Decidable.byContradiction
                    intro z
                    exact q5 (by rw [(G.np hs).2.2.2.2.2 z, (G.np ht).2.2.2.2.2 (by omega)])
                  have bs := sz_b G hs (by omega) n2s
                  have bt := sz_b G ht zt (by omega)
                  simp only [q4, if_true]
                  obtain ⟨f2, r, e1, e2, e3⟩ := ih dc dm (bB B s) (bB B t) (lev + 1) (pA wc 30 f) R2 bs.1 bt.1 (by omega) (by omega) (by omega) (by omega)
                  rw [eN_n (by omega), eN_n (by omega), nI_1, e1, cl_s, bo01 e3]
                  refine ⟨f2, r, by rw [pA_pA], ?_, e3⟩
                  have hN3 : fX11_isAbove_148 N (dm + k + 3) (eX11_isAbove N (dm + k + 3)) N wm (nI s) (nI t) 0 = fX11_isAbove_148 N (dm + k + 3) (eX11_isAbove N (dm + k + 3)) (N2 + 1 + 1 + 1) wm (nI s) (nI t) (nI 0) := by rw [← hN2]; rfl
                  rw [hN3, parts]
                  unfold bX11_isAbove_148
                  rw [mps, cl_s, if_neg (fun z => by rw [nI_leI (by omega) (by omega)] at z; omega), m0s, cl_s, m0t, cl_s, if_pos (haE.mpr q4)]
                  simp only [c_nm, nI_1]
                  rw [parts]
                  unfold bX11_isAbove_148
                  rw [mps, cl_s, if_neg (fun z => by rw [nI_leI (by omega) (by omega)] at z; omega)]
                  show c_cl (eX11_partOf N (dm + k + 3) wm (nI s) (nI 1)) _ = _
                  rw [m1s, cl_s, m1t, cl_s, if_neg (fun z => q5 (hbE.mp z))]
                  show c_cl (eX11_partOf N (dm + k + 3) wm (nI s) (nI 1)) _ = _
                  rw [m1s, cl_s, m1t, cl_s, eN_n (by omega), eN_n (by omega), e2, cl_s, bo01 e3]
                · have n1s : 1 ≤ npB B s := by
                    apply Decidable.byContradiction
                    intro z
                    exact q4 (by rw [(G.np hs).2.2.2.2.1 z, (G.np ht).2.2.2.2.1 (by omega)])
                  have as := sz_a G hs (by omega) n1s
                  have at' := sz_a G ht zt (by omega)
                  simp only [q4, if_false]
                  obtain ⟨f2, r, e1, e2, e3⟩ := ih dc dm (aB B s) (aB B t) (lev + 1) (pA wc 30 f) R2 as.1 at'.1 (by omega) (by omega) (by omega) (by omega)
                  rw [eN_n (by omega), eN_n (by omega), nI_1, e1, cl_s, bo01 e3]
                  refine ⟨f2, r, by rw [pA_pA], ?_, e3⟩
                  have hN3 : fX11_isAbove_148 N (dm + k + 3) (eX11_isAbove N (dm + k + 3)) N wm (nI s) (nI t) 0 = fX11_isAbove_148 N (dm + k + 3) (eX11_isAbove N (dm + k + 3)) (N2 + 1 + 1 + 1) wm (nI s) (nI t) (nI 0) := by rw [← hN2]; rfl
                  rw [hN3, parts]
                  unfold bX11_isAbove_148
                  rw [mps, cl_s, if_neg (fun z => by rw [nI_leI (by omega) (by omega)] at z; omega), m0s, cl_s, m0t, cl_s, if_neg (fun z => q4 (haE.mp z)), m0s, cl_s, m0t, cl_s, eN_n (by omega), eN_n (by omega), e2, cl_s, bo01 e3]
              · simp only [q3, if_false]
                by_cases q6 : hB B s ≤ hB B t
                · simp only [q6, if_true]
                  exact ⟨f, 0, bo01 (Or.inl rfl), bo01 (Or.inl rfl), Or.inl rfl⟩
                · simp only [q6, if_false]
                  exact ⟨f, 1, bo01 (Or.inr rfl), bo01 (Or.inr rfl), Or.inr rfl⟩
            · simp only [q1, q2, if_true, if_false, i10]
              exact ⟨f, 1, bo01 (Or.inr rfl), bo01 (Or.inr rfl), Or.inr rfl⟩
          · simp only [q1, if_false, i10]
            exact ⟨f, 0, bo01 (Or.inl rfl), bo01 (Or.inl rfl), Or.inl rfl⟩
        · simp only [qw, if_false]
          by_cases q6 : wgB B s ≤ wgB B t
          · simp only [q6, if_true]
            exact ⟨f, 0, bo01 (Or.inl rfl), bo01 (Or.inl rfl), Or.inl rfl⟩
          · simp only [q6, if_false]
            exact ⟨f, 1, bo01 (Or.inr rfl), bo01 (Or.inr rfl), Or.inr rfl⟩
      · have c3 : eX0_hasVariablesOf N (dc + k + 33) wc (nI s) (nI t) = some (pA wc 30 f, 0) := c2 hle
        rw [c3, cl_s, if_pos i00]
        exact ⟨f, 0, rfl, l2 (fun h => hle (fun v hv => h v (Nat.zero_le _) hv)), Or.inl rfl⟩
theorem op_above {N d : Nat} (hN : 2000000 ≤ N) : Op_above N (d + 70) II := by
  intro t wc wm x y _ h
  obtain ⟨B, R, G, gr, rb, rm, rc, rr, ru, rp, rt, rs⟩ := id h
  have key : eX10_above N (d + 70) wc x y = bX10_above_0 N (d + 69) wc x y := rfl
  have key2 : eX11_above N (d + 70) wm x y = bX11_above_0 N (d + 69) wm x y := rfl
  have g1 := G.1
  have rm2 : RM B (pI wm 0 0) := rm
  rw [key, key2]
  unfold bX10_above_0 bX11_above_0 bX10_above_16 bX11_above_21 bX10_above_41 bX11_above_50 bX10_above_62 bX11_above_69
  simp only [c_pi]
  rw [cIsTerm rb, cl_s, cIsTerm rb, cl_s, mIsTerm G rm2, cl_s, mIsTerm G rm2, cl_s]
  rcases iw_cases (n := nB B) (by omega) x with ⟨l, hl, el, ql⟩ | ⟨_, q⟩
  · rcases iw_cases (n := nB B) (by omega) y with ⟨r, hr, er, qr⟩ | ⟨_, q⟩
    · simp only [ql, qr, i10, if_false]
      have sl := G.sz_le hl
      have sr := G.sz_le hr
      rw [el, er, cIsSmall G rb hl, cl_s, cIsSmall G rb hr, cl_s, ll_n (by omega) (by omega), (rm2.2.2.2.2.1 l hl).2.2.2.1, ll_n (by omega) (by omega), (rm2.2.2.2.2.1 r hr).2.2.2.1]
      have zl : 0 < lg_cmp (lN (szB B l)) 30 ↔ ¬ szB B l ≤ 30 := by rw [show (30 : Int64) = lN 30 from rfl, lc_gt (by omega) (by omega)]; omega
      have zr : lg_cmp (lN (szB B r)) 30 ≤ 0 ↔ szB B r ≤ 30 := by rw [show (30 : Int64) = lN 30 from rfl, lc_le (by omega) (by omega)]
      simp only [zl, zr]
      by_cases q1 : szB B l ≤ 30
      · by_cases q2 : szB B r ≤ 30
        · simp only [q1, q2, if_true, not_true_eq_false, if_false, i10]
          obtain ⟨f, a, e1, e2, e3⟩ := above2 G rm2 hN 30 (d + 6) (d + 36) l r 1 wc rb hl hr q1 q2 (by omega) (by omega)
          have e4 : eX0_isAbove N (d + 69) wc (nI l) (nI r) 1 = _ := e1
          have e5 : eX11_isAbove N (d + 69) (pI wm 0 0) (nI l) (nI r) = _ := e2
          rw [e4, cl_s, e5, cl_s]
          have fin : II (t + 1) (pA wc 30 f) (pI wm 0 0) := ⟨B, R, G, gr, rb, rm, rc, rr, ru, rp, rt, rs.up⟩
          rcases e3 with q | q
          · rw [if_pos q, if_pos q]
            exact ⟨_, _, _, rfl, rfl, fin⟩
          · have q3 : ¬ a = 0 := by rw [q]; decide
            rw [if_neg q3, if_neg q3]
            exact ⟨_, _, _, rfl, rfl, fin⟩
        · simp only [q1, q2, if_true, not_true_eq_false, if_false, i10]
          exact two_th rfl rfl h
      · simp only [q1, if_true, not_false_eq_true, if_false]
        exact two_th rfl rfl h
    · refine two_th (r := -2) ?_ ?_ h
      · simp only [ql, q, i10, if_true, if_false]
      · simp only [ql, q, i10, if_true, if_false]
  · refine two_th (r := -2) ?_ ?_ h
    · simp only [q, if_true]
    · simp only [q, if_true]
theorem op_ends {N d : Nat} (hN : 2000000 ≤ N) : Op_ends N (d + 70) II := by
  intro t wc wm x _ h
  obtain ⟨B, R, G, gr, rb, rm, rc, rr, ru, rp, rt, rs⟩ := id h
  have key : eX10_ends N (d + 70) wc x = bX10_ends_0 N (d + 69) wc x := rfl
  have key2 : eX11_ends N (d + 70) wm x = bX11_ends_0 N (d + 69) wm x := rfl
  have g1 := G.1
  have rg := gr.1
  have rm2 : RM B (pI wm 0 0) := rm
  have rr2 : RRm R (pI wm 0 0) := rr
  rw [key, key2]
  unfold bX10_ends_0 bX11_ends_0 bX10_ends_45 bX11_ends_42
  simp only [c_pi]
  rw [cIsRule rc, cl_s, mIsRule rg rr2, cl_s]
  rcases iw_cases (n := R.1) (by omega) x with ⟨i, hi, ei, qi⟩ | ⟨_, q⟩
  · obtain ⟨a1, a2, a3, a4, a5, a6, a7⟩ := gr.2 i hi
    rw [qi, if_neg i10, if_neg i10, ei, ld_n (by omega) (by omega), (rc.2 i hi).1, ld_n (by omega) (by omega), (rc.2 i hi).2.1, ld_n (by omega) (by omega), (rr2.2 i hi).1, ld_n (by omega) (by omega), (rr2.2 i hi).2.1]
    obtain ⟨f, a, e1, e2, e3⟩ := above2 G rm2 hN 30 (d + 6) (d + 36) _ _ 1 wc rb a1 a2 a4 a5 (by omega) (by omega)
    have e4 : eX0_isAbove N (d + 69) wc (nI (R.2.1 i)) (nI (R.2.2.1 i)) 1 = _ := e1
    have e5 : eX11_isAbove N (d + 69) (pI wm 0 0) (nI (R.2.1 i)) (nI (R.2.2.1 i)) = _ := e2
    rw [e4, cl_s, e5, cl_s]
    have fin : II (t + 1) (pA wc 30 f) (pI wm 0 0) := ⟨B, R, G, gr, rb, rm, rc, rr, ru, rp, rt, rs.up⟩
    rcases e3 with q | q
    · rw [if_pos q, if_pos q]
      exact ⟨_, _, _, rfl, rfl, fin⟩
    · have q3 : ¬ a = 0 := by rw [q]; decide
      rw [if_neg q3, if_neg q3]
      exact ⟨_, _, _, rfl, rfl, fin⟩
  · rw [q, if_pos i00, if_pos i00]
    exact two_th rfl rfl h
