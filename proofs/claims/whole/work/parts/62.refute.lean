/-! the reference refutes -/
abbrev rfA : Nat → Bool := fun k => k == 31 || k == 32
abbrev noS : Nat → Bool := fun _ => false
def okd (B : Bk) (b L c v : Nat) : Prop := dg b c v = 0 ∨ 0 < ctB B L v
theorem mRefI {B : Bk} (G : GB B) {N d b c r L : Nat} {rec9 : Wd → Int32 → Int32 → Int32 → Option (Wd × Int32)} (hb : b = 2 ∨ b = 3 ∨ b = 4) (hc : c < 256) (hr : r < 16) (hL : L < nB B) : ∀ n j w (g : Prop) (x5 : Int32), RM B w → aI w 9 r = nI L → j ≤ 4 → 4 < n + j → (x5 = 0 ∧ ¬ g ∨ x5 = 1 ∧ g) →
    ∃ f n2 x4 x52, fX11_refutes_29 N d rec9 n w (nI r) (nI b) (nI c) (nI (c / b ^ j)) x5 (nI j) = bX11_refutes_29 N d rec9 (fX11_refutes_29 N d rec9 n2) (pA w 32 f) (nI r) (nI b) (nI c) x4 x52 4 ∧ (∀ v, f v = if j ≤ v ∧ v < 4 then nI (dg b c v) else aI w 32 v) ∧ (x52 = 0 ∧ ¬ (g ∧ ∀ v, j ≤ v → v < 4 → okd B b L c v) ∨ x52 = 1 ∧ (g ∧ ∀ v, j ≤ v → v < 4 → okd B b L c v)) := by
  have g1 := G.1
  intro n
  induction n with
  | zero => intro j w g x5 _ _ h1 h2; omega
  | succ n ih =>
    intro j w g x5 R h9 h1 h2 hx
    have key : fX11_refutes_29 N d rec9 (n + 1) w (nI r) (nI b) (nI c) (nI (c / b ^ j)) x5 (nI j) = bX11_refutes_29 N d rec9 (fX11_refutes_29 N d rec9 n) w (nI r) (nI b) (nI c) (nI (c / b ^ j)) x5 (nI j) := rfl
    by_cases e : j = 4
    · refine ⟨aI w 32, n, nI (c / b ^ j), x5, ?_, fun v => by rw [if_neg (by omega)], ?_⟩
      · rw [key, pA_eta, e]
        rfl
      · rcases hx with ⟨q1, q2⟩ | ⟨q1, q2⟩
        · exact Or.inl ⟨q1, fun z => q2 z.1⟩
        · exact Or.inr ⟨q1, q2, fun v h3 h4 => by omega⟩
    · have hcj : c / b ^ j ≤ c := Nat.div_le_self _ _
      have hdj : dg b c j ≤ 3 := by
        have : dg b c j < b := Nat.mod_lt _ (by omega)
        omega
      have hnx : c / b ^ j / b = c / b ^ (j + 1) := by rw [Nat.div_div_eq_div_mul, ← Nat.pow_succ]
      have step : ∃ x52, bX11_refutes_29 N d rec9 (fX11_refutes_29 N d rec9 n) w (nI r) (nI b) (nI c) (nI (c / b ^ j)) x5 (nI j) = fX11_refutes_29 N d rec9 n (pA w 32 (upd (aI w 32) j (nI (dg b c j)))) (nI r) (nI b) (nI c) (nI (c / b ^ (j + 1))) x52 (nI (j + 1)) ∧ (x52 = 0 ∧ ¬ (g ∧ okd B b L c j) ∨ x52 = 1 ∧ (g ∧ okd B b L c j)) := by
        unfold bX11_refutes_29 bX11_refutes_93 bX11_refutes_89 bX11_refutes_94 c_nz
        simp only [c_nm]
        have hb0 : ¬ nI b = 0 := nI_ne0 (by omega) (by omega)
        rw [if_neg (show ¬ (4 : Int32) ≤ nI j from fun z => e (by rw [show (4 : Int32) = nI 4 from rfl, nI_leI (by omega) (by omega)] at z; omega)), if_neg hb0, pk_rem (by omega) (by omega) (by omega), st_n (by omega) (by omega), if_neg hb0, pk_div (by omega) (by omega) (by omega), hnx, nI_1]
        have edg : c / b ^ j % b = dg b c j := rfl
        rw [edg]
        generalize hw10 : pA w 32 (upd (aI w 32) j (nI (dg b c j))) = w10
        have R10 : RM B w10 := by rw [← hw10]; exact R
        have e32 : aI w10 32 j = nI (dg b c j) := by rw [← hw10, aI_pA, if_pos rfl, upd_s]
        have e9 : aI w10 9 r = nI L := by rw [← hw10]; exact h9
        have cL := (G.sz_le hL).2.2.2 j (by omega)
        rw [ld_n (by omega) (by omega), e32, ld_n (by omega) (by omega), e9, show (8 : Int32) = nI 8 from rfl, pk_mul, nI_add, ll_n (by omega) (by omega), R10.2.2.2.2.2 L hL j (by omega)]
        have zl : lg_cmp (lN (ctB B L j)) 0 ≤ 0 ↔ ctB B L j = 0 := by rw [show (0 : Int64) = lN 0 from rfl, lc_le (by omega) (by omega)]; omega
        have zd : nI (dg b c j) = 0 ↔ dg b c j = 0 := by rw [show (0 : Int32) = nI 0 from rfl, nI_eq (by omega) (by omega)]
        rcases hx with ⟨q1, q2⟩ | ⟨q1, q2⟩
        · rw [if_pos q1]
          exact ⟨0, rfl, Or.inl ⟨rfl, fun z => q2 z.1⟩⟩
        · rw [if_neg (by rw [q1]; decide)]
          by_cases q3 : dg b c j = 0
          · rw [if_pos (zd.mpr q3)]
            exact ⟨1, rfl, Or.inr ⟨rfl, q2, Or.inl q3⟩⟩
          · rw [if_neg (fun z => q3 (zd.mp z))]
            by_cases q4 : ctB B L j = 0
            · rw [if_pos (zl.mpr q4)]
              exact ⟨0, rfl, Or.inl ⟨rfl, fun z => by rcases z.2 with y | y <;> omega⟩⟩
            · rw [if_neg (fun z => q4 (zl.mp z))]
              exact ⟨1, rfl, Or.inr ⟨rfl, q2, Or.inr (by omega)⟩⟩
      obtain ⟨x52, s1, s2⟩ := step
      obtain ⟨f, n2, x4, x53, r1, r2, r3⟩ := ih (j + 1) (pA w 32 (upd (aI w 32) j (nI (dg b c j)))) (g ∧ okd B b L c j) x52 R h9 (by omega) (by omega) s2
      refine ⟨f, n2, x4, x53, by rw [key, s1, r1, pA_pA], fun v => ?_, ?_⟩
      · rw [r2 v, aI_pA, if_pos rfl]
        by_cases q : j + 1 ≤ v ∧ v < 4
        · rw [if_pos q, if_pos (by omega)]
        · rw [if_neg q]
          by_cases q2 : v = j
          · rw [q2, upd_s, if_pos (by omega)]
          · rw [upd_n q2, if_neg (by omega)]
      · have eqv : ((g ∧ okd B b L c j) ∧ ∀ v, j + 1 ≤ v → v < 4 → okd B b L c v) ↔ (g ∧ ∀ v, j ≤ v → v < 4 → okd B b L c v) := by
          constructor
          · rintro ⟨⟨h1, h2⟩, h3⟩
            refine ⟨h1, fun v h4 h5 => ?_⟩
            by_cases ev : v = j
            · rw [ev]; exact h2
            · exact h3 v (by omega) h5
          · rintro ⟨h1, h2⟩
            exact ⟨⟨h1, h2 j (by omega) (by omega)⟩, fun v h4 h5 => h2 v (by omega) h5⟩
        rw [eqv] at r3
        exact r3
theorem mRefL {B : Bk} (G : GB B) {N d b r L Rr : Nat} {tab : Nat → Nat} (hN : 2000000 ≤ N) (hb : b = 2 ∨ b = 3 ∨ b = 4) (hr : r < 16) (hL : L < nB B) (hR : Rr < nB B) (h1 : ∀ j, j < 160 → tab j ≤ 3) (cL : ∀ v, 4 ≤ v → v < 8 → ctB B L v = 0) (cR : ∀ v, v < 8 → ctB B L v = 0 → ctB B Rr v = 0) :
    ∀ n k c w, RM B w → aI w 9 r = nI L → aI w 10 r = nI Rr → (∀ j, j < 160 → aI w 29 j = nI (tab j)) → k + c = b ^ 4 → k < n →
    ∃ w2, Fr noS rfA w w2 ∧ (∀ c2, scan (Qr B tab b L Rr) k c = some c2 → fX11_refutes_9 N (d + 1002) n w (nI r) (nI b) (nI c) = some (w2, 1) ∧ ∀ v, v < 4 → aI w2 32 v = nI (dg b c2 v)) ∧ (scan (Qr B tab b L Rr) k c = none → fX11_refutes_9 N (d + 1002) n w (nI r) (nI b) (nI c) = some (w2, 0)) := by
  have g1 := G.1
  have hT : b ^ 4 ≤ 256 ∧ b * b * b * b = b ^ 4 := by rcases hb with rfl | rfl | rfl <;> decide
  have hbb : (nI b * nI b) * nI b * nI b = nI (b ^ 4) := by rw [pk_mul, pk_mul, pk_mul, hT.2]
  intro n
  induction n with
  | zero => intro k c w _ _ _ _ _ h; omega
  | succ n ih =>
    intro k c w R h9 h10 h29 hk hn
    have key : fX11_refutes_9 N (d + 1002) (n + 1) w (nI r) (nI b) (nI c) = bX11_refutes_9 N (d + 1002) (fX11_refutes_9 N (d + 1002) n) w (nI r) (nI b) (nI c) := rfl
    rw [key]
    unfold bX11_refutes_9
    rw [hbb]
    cases k with
    | zero =>
      refine ⟨w, Fr.rf w, fun c2 h => (by cases h), fun _ => ?_⟩
      rw [if_pos ((nI_leI (by omega) (by omega)).mpr (by omega))]
    | succ k =>
      rw [if_neg (fun z => by rw [nI_leI (by omega) (by omega)] at z; omega)]
      obtain ⟨f, n2, x4, x5, r1, r2, r3⟩ := mRefI G (N := N) (d := d + 1002) (rec9 := fX11_refutes_9 N (d + 1002) n) (c := c) hb (by omega) hr hL N 0 w True 1 R h9 (by omega) (by omega) (Or.inr ⟨rfl, trivial⟩)
      have r4 : fX11_refutes_29 N (d + 1002) (fX11_refutes_9 N (d + 1002) n) N w (nI r) (nI b) (nI c) (nI c) 1 0 = bX11_refutes_29 N (d + 1002) (fX11_refutes_9 N (d + 1002) n) (fX11_refutes_29 N (d + 1002) (fX11_refutes_9 N (d + 1002) n) n2) (pA w 32 f) (nI r) (nI b) (nI c) x4 x5 4 := by
        rw [Nat.pow_zero, Nat.div_one] at r1
        exact r1
      rw [r4]
      have Rf : RM B (pA w 32 f) := R
      have sc : scan (Qr B tab b L Rr) (k + 1) c = if Qr B tab b L Rr c = true then some c else scan (Qr B tab b L Rr) k (c + 1) := rfl
      rw [sc]
      -- the next code
      have next : ∀ w1, Fr noS rfA w w1 → Qr B tab b L Rr c = false → ∃ w2, Fr noS rfA w w2 ∧ (∀ c2, (if Qr B tab b L Rr c = true then some c else scan (Qr B tab b L Rr) k (c + 1)) = some c2 → bX11_refutes_136 N (d + 1002) (fX11_refutes_9 N (d + 1002) n) w1 (nI r) (nI b) (nI c) = some (w2, 1) ∧ ∀ v, v < 4 → aI w2 32 v = nI (dg b c2 v)) ∧ ((if Qr B tab b L Rr c = true then some c else scan (Qr B tab b L Rr) k (c + 1)) = none → bX11_refutes_136 N (d + 1002) (fX11_refutes_9 N (d + 1002) n) w1 (nI r) (nI b) (nI c) = some (w2, 0)) := by
        intro w1 fr hq
        rw [hq, if_neg (by decide)]
        unfold bX11_refutes_136
        simp only [c_nm, nI_1]
        obtain ⟨w2, f2, s1, s2⟩ := ih k (c + 1) w1 (R.k fr) (by rw [(fr.2 9 rfl).1]; exact h9) (by rw [(fr.2 10 rfl).1]; exact h10) (by rw [(fr.2 29 rfl).1]; exact h29) (by omega) (by omega)
        exact ⟨w2, fr.tr f2, s1, s2⟩
      have fr0 : Fr noS rfA w (pA w 32 f) := (Fr.rf w).pa rfl
      unfold bX11_refutes_29
      rw [if_pos (show (4 : Int32) ≤ 4 by decide)]
      rcases r3 with ⟨q1, q2⟩ | ⟨q1, _, q2⟩
      · rw [if_pos q1]
        refine next _ fr0 ?_
        cases hq : Qr B tab b L Rr c with
        | false => rfl
        | true => exact absurd ⟨trivial, fun v _ hv => (Qr_iff.mp hq).1 v hv⟩ q2
      · rw [if_neg (show ¬ x5 = 0 by rw [q1]; decide)]
        obtain ⟨f2, b1, b2⟩ := mBegin G (N := N) (d := d + 1001) (tab := tab) (hv := hvc b c) hN Rf
        rw [b1, cv_s]
        have Rf2 : RM B (pA (pA w 32 f) 31 f2) := R
        have l9 : aI (pA (pA w 32 f) 31 f2) 9 r = nI L := h9
        have gv : ∀ v, v < 4 → f v = nI (dg b c v) := fun v hv => by rw [r2 v, if_pos ⟨Nat.zero_le _, hv⟩]
        have dle : ∀ v, dg b c v ≤ 3 := fun v => by
          have : dg b c v < b := Nat.mod_lt _ (by omega)
          omega
        have hgv : ∀ v, v < 4 → f v = nI (hvc b c v) ∧ hvc b c v ≤ 3 := fun v hv => by
          have : hvc b c v = dg b c v := if_pos hv
          rw [this]
          exact ⟨gv v hv, dle v⟩
        obtain ⟨f3, c1, c2⟩ := mWorth G (N := N) (tab := tab) (hv := hvc b c) h1 1000 d L (pA (pA w 32 f) 31 f2) (by omega) Rf2 hL h29 (fun v hv q => hgv v (by
          apply Decidable.byContradiction
          intro z
          have := cL v (by omega) hv
          omega)) b2
        rw [ld_n (by omega) (by omega), l9]
        have c3 : eX11_worthOf N (d + 1002) (pA (pA w 32 f) 31 f2) (nI L) = _ := c1
        rw [c3, cl_s, pA_pA]
        rw [pA_pA] at c2
        have Rf3 : RM B (pA (pA w 32 f) 31 f3) := R
        have l10 : aI (pA (pA w 32 f) 31 f3) 10 r = nI Rr := h10
        obtain ⟨f4, e1, e2⟩ := mWorth G (N := N) (tab := tab) (hv := hvc b c) h1 1000 d Rr (pA (pA w 32 f) 31 f3) (by omega) Rf3 hR h29 (fun v hv q => hgv v (by
          apply Decidable.byContradiction
          intro z
          have := cR v hv (cL v (by omega) hv)
          omega)) c2
        rw [ld_n (by omega) (by omega), l10]
        have e3 : eX11_worthOf N (d + 1002) (pA (pA w 32 f) 31 f3) (nI Rr) = _ := e1
        rw [e3, cl_s, pA_pA]
        have fr4 : Fr noS rfA w (pA (pA w 32 f) 31 f4) := fr0.pa rfl
        have vL := (vlu_le G (tab := tab) (hv := hvc b c) h1 (L + 1) L (by omega) hL (fun v hv q => by unfold hvc; split; exact dle v; omega)).1
        have vR := (vlu_le G (tab := tab) (hv := hvc b c) h1 (Rr + 1) Rr (by omega) hR (fun v hv q => by unfold hvc; split; exact dle v; omega)).1
        have veq : nI (vlu B tab (hvc b c) L) = nI (vlu B tab (hvc b c) Rr) ↔ vlu B tab (hvc b c) L = vlu B tab (hvc b c) Rr := nI_eq (by omega) (by omega)
        by_cases q3 : vlu B tab (hvc b c) L = vlu B tab (hvc b c) Rr
        · rw [if_pos (veq.mpr q3)]
          refine next _ fr4 ?_
          cases hq : Qr B tab b L Rr c with
          | false => rfl
          | true => exact absurd q3 (Qr_iff.mp hq).2
        · rw [if_neg (fun z => q3 (veq.mp z))]
          have hq : Qr B tab b L Rr c = true := Qr_iff.mpr ⟨fun v hv => q2 v (Nat.zero_le _) hv, q3⟩
          rw [hq, if_pos rfl]
          refine ⟨_, fr4, fun c2 hc2 => ⟨rfl, fun v hv => ?_⟩, fun hc2 => (by cases hc2)⟩
          cases hc2
          exact gv v hv
