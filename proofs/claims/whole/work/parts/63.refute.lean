/-! the class refutes -/
theorem cTryL {N d nv M : Nat} {e : Nat → Nat} (hM : M < 256) (hn : nv ≤ 3) : ∀ n j w, sI w 10 = nI nv → j ≤ 4 → 4 < n + j → (∀ v, v < 4 → j ≤ v → aI w 37 v = nI (e v) ∧ e v ≤ nv) →
    (∃ v f, j ≤ v ∧ v < 4 ∧ M.testBit v = true ∧ e v < nv ∧ (∀ u, j ≤ u → u < v → M.testBit u = true → e u = nv) ∧ fX7_tryNext_2 N d n w (nI M) (nI j) = some (pA w 37 f, 1) ∧ ∀ u, f u = if u = v then nI (e v + 1) else if j ≤ u ∧ u < v ∧ M.testBit u = true then 0 else aI w 37 u) ∨
    ((∀ u, j ≤ u → u < 4 → M.testBit u = true → e u = nv) ∧ ∃ f, fX7_tryNext_2 N d n w (nI M) (nI j) = some (pA w 37 f, 0)) := by
  intro n
  induction n with
  | zero => intro j w _ h1 h2; omega
  | succ n ih =>
    intro j w hs h1 h2 he
    have key : fX7_tryNext_2 N d (n + 1) w (nI M) (nI j) = bX7_tryNext_2 N d (fX7_tryNext_2 N d n) w (nI M) (nI j) := rfl
    rw [key]
    unfold bX7_tryNext_2 bX7_tryNext_48
    simp only [c_nm]
    by_cases e4 : j = 4
    · rw [if_pos (by rw [show (4 : Int32) = nI 4 from rfl, nI_leI (by omega) (by omega)]; omega)]
      exact Or.inr ⟨fun u h3 h4 => by omega, aI w 37, by rw [pA_eta]⟩
    · rw [if_neg (fun z => e4 (by rw [show (4 : Int32) = nI 4 from rfl, nI_leI (by omega) (by omega)] at z; omega)), nI_1]
      have hb := bitat j (by omega) M hM
      by_cases q : M.testBit j = true
      · obtain ⟨e1, e2⟩ := he j (by omega) (Nat.le_refl _)
        rw [if_pos (hb.mpr q), ld_n (by omega) (by omega), e1, hs, ld_n (by omega) (by omega), e1]
        by_cases q2 : nv ≤ e j
        · rw [if_pos ((nI_leI (by omega) (by omega)).mpr q2), st_n (by omega) (by omega)]
          have ej : e j = nv := by omega
          have hrec := ih (j + 1) (pA w 37 (upd (aI w 37) j 0)) hs (by omega) (by omega) (fun v hv h3 => by
            rw [aI_pA, if_pos rfl, upd_n (by omega)]
            exact he v hv (by omega))
          rcases hrec with ⟨v, f, r1, r2, r3, r4, r5, r6, r7⟩ | ⟨r1, f, r2⟩
          · refine Or.inl ⟨v, f, by omega, r2, r3, r4, fun u h3 h4 h5 => ?_, by rw [r6, pA_pA], fun u => ?_⟩
            · by_cases eu : u = j
              · rw [eu]; exact ej
              · exact r5 u (by omega) h4 h5
            · rw [r7 u, aI_pA, if_pos rfl]
              by_cases e1 : u = v
              · rw [if_pos e1, if_pos e1]
              · rw [if_neg e1, if_neg e1]
                by_cases e2 : u = j
                · rw [if_neg (by omega), e2, upd_s, if_pos ⟨by omega, by omega, q⟩]
                · rw [upd_n e2]
                  by_cases e3 : j + 1 ≤ u ∧ u < v ∧ M.testBit u = true
                  · rw [if_pos e3, if_pos ⟨by omega, e3.2⟩]
                  · rw [if_neg e3, if_neg (fun z => e3 ⟨by omega, z.2⟩)]
          · refine Or.inr ⟨fun u h3 h4 h5 => ?_, f, by rw [r2, pA_pA]⟩
            by_cases eu : u = j
            · rw [eu]; exact ej
            · exact r1 u (by omega) h4 h5
        · rw [if_neg (fun z => q2 ((nI_leI (by omega) (by omega)).mp z)), st_n (by omega) (by omega), nI_1]
          refine Or.inl ⟨j, _, by omega, by omega, q, by omega, fun u h3 h4 => by omega, rfl, fun u => ?_⟩
          by_cases eu : u = j
          · rw [if_pos eu, eu, upd_s]
          · rw [if_neg eu, upd_n eu, if_neg (by omega)]
      · rw [if_neg (fun z => q (hb.mp z))]
        have hrec := ih (j + 1) w hs (by omega) (by omega) (fun v hv h3 => he v hv (by omega))
        rcases hrec with ⟨v, f, r1, r2, r3, r4, r5, r6, r7⟩ | ⟨r1, f, r2⟩
        · refine Or.inl ⟨v, f, by omega, r2, r3, r4, fun u h3 h4 h5 => ?_, r6, fun u => ?_⟩
          · by_cases eu : u = j
            · rw [eu] at h5; exact absurd h5 q
            · exact r5 u (by omega) h4 h5
          · rw [r7 u]
            by_cases e1 : u = v
            · rw [if_pos e1, if_pos e1]
            · rw [if_neg e1, if_neg e1]
              by_cases e3 : j + 1 ≤ u ∧ u < v ∧ M.testBit u = true
              · rw [if_pos e3, if_pos ⟨by omega, e3.2⟩]
              · rw [if_neg e3, if_neg (fun z => e3 ⟨by
                  by_cases eu : u = j
                  · rw [eu] at z; exact absurd z.2.2 q
                  · omega, z.2⟩)]
        · refine Or.inr ⟨fun u h3 h4 h5 => ?_, f, r2⟩
          by_cases eu : u = j
          · rw [eu] at h5; exact absurd h5 q
          · exact r1 u (by omega) h4 h5
abbrev rcA : Nat → Bool := fun k => k == 37
theorem cRefL {B : Bk} (G : GB B) {N d nv L Rr : Nat} {tab : Nat → Nat} (hN : 2000000 ≤ N) (hn : 1 ≤ nv ∧ nv ≤ 3) (hL : L < nB B) (hR : Rr < nB B) (h1 : ∀ j, j < 160 → tab j ≤ 3) (sL : szB B L ≤ 30) (sR : szB B Rr ≤ 30) :
    ∀ n c lk w, RB B w → sI w 10 = nI nv → (∀ j, j < 160 → aI w 35 j = nI (tab j)) → c < (nv + 1) ^ 4 → (nv + 1) ^ 4 < n + c → lk ≤ c → vld B (nv + 1) L c → (∀ v, v < 4 → aI w 37 v = nI (dg (nv + 1) c v)) → (∀ v, v < 8 → 4 ≤ v → aI w 37 v = 0) →
    ∃ w2, Fr noS rcA w w2 ∧ (∀ c2, scan (Qr B tab (nv + 1) L Rr) ((nv + 1) ^ 4 - c) c = some c2 → fX7_refutes_13 N (d + 32) n w (nI L) (nI Rr) 1 (nI lk) = some (w2, 1) ∧ ∀ v, v < 4 → aI w2 37 v = nI (dg (nv + 1) c2 v)) ∧ (scan (Qr B tab (nv + 1) L Rr) ((nv + 1) ^ 4 - c) c = none → fX7_refutes_13 N (d + 32) n w (nI L) (nI Rr) 1 (nI lk) = some (w2, 0)) := by
  have g1 := G.1
  have hb : nv + 1 = 2 ∨ nv + 1 = 3 ∨ nv + 1 = 4 := by omega
  have hT : (nv + 1) ^ 4 ≤ 256 := by rcases hb with q | q | q <;> rw [q] <;> decide
  have dle : ∀ c v, dg (nv + 1) c v ≤ nv := fun c v => by
    have : dg (nv + 1) c v < nv + 1 := Nat.mod_lt _ (by omega)
    omega
  intro n
  induction n with
  | zero => intro c lk w _ _ _ h2 h3; omega
  | succ n ih =>
    intro c lk w R hs h35 hc hf hlk hvl h37 h38
    have key : fX7_refutes_13 N (d + 32) (n + 1) w (nI L) (nI Rr) 1 (nI lk) = bX7_refutes_13 N (d + 32) (fX7_refutes_13 N (d + 32) n) w (nI L) (nI Rr) 1 (nI lk) := rfl
    rw [key]
    unfold bX7_refutes_13 bX7_refutes_61
    simp only [c_nm]
    rw [if_neg (show ¬ (1000000 : Int32) ≤ nI lk from fun z => by rw [show (1000000 : Int32) = nI 1000000 from rfl, nI_leI (by omega) (by omega)] at z; omega), if_neg i10]
    have hv3 : ∀ v, v < 8 → hvc (nv + 1) c v ≤ 3 := fun v _ => by
      unfold hvc
      split
      · have := dle c v; omega
      · omega
    have ct := cTried G (N := N) (tab := tab) (hv := hvc (nv + 1) c) R h1 hv3 h35 (fun v hv => by
      unfold hvc
      by_cases q : v < 4
      · rw [if_pos q]; exact h37 v q
      · rw [if_neg q]; exact h38 v hv (by omega))
    have tL : eX7_triedValueOf N (d + 32) w (nI L) 1 = some (w, nI (vlu B tab (hvc (nv + 1) c) L)) := ct 30 d L 1 hL sL (by omega)
    have tR : eX7_triedValueOf N (d + 32) w (nI Rr) 1 = some (w, nI (vlu B tab (hvc (nv + 1) c) Rr)) := ct 30 d Rr 1 hR sR (by omega)
    have vL := (vlu_le G (tab := tab) (hv := hvc (nv + 1) c) h1 (L + 1) L (by omega) hL (fun v hv q => hv3 v hv)).1
    have vR := (vlu_le G (tab := tab) (hv := hvc (nv + 1) c) h1 (Rr + 1) Rr (by omega) hR (fun v hv q => hv3 v hv)).1
    rw [tL, cl_s, tR, cl_s]
    have fr4 : Fr noS rcA w w := Fr.rf w
    have veq : nI (vlu B tab (hvc (nv + 1) c) L) = nI (vlu B tab (hvc (nv + 1) c) Rr) ↔ vlu B tab (hvc (nv + 1) c) L = vlu B tab (hvc (nv + 1) c) Rr := nI_eq (by omega) (by omega)
    obtain ⟨kk, hkk⟩ : ∃ kk, (nv + 1) ^ 4 - c = kk + 1 := ⟨(nv + 1) ^ 4 - c - 1, by omega⟩
    by_cases q3 : vlu B tab (hvc (nv + 1) c) L = vlu B tab (hvc (nv + 1) c) Rr
    · rw [if_pos (veq.mpr q3)]
      have hqf : Qr B tab (nv + 1) L Rr c = false := by
        cases hq : Qr B tab (nv + 1) L Rr c with
        | false => rfl
        | true => exact absurd q3 (Qr_iff.mp hq).2
      obtain ⟨M, m1, m2, m3⟩ := R.2.2.2.2.1 L hL
      rw [ld_n (by omega) (by omega), m2]
      have mk : ∀ v, v < 8 → (M.testBit v = true ↔ 0 < ctB B L v) := fun v hv => by rw [m3 v hv, decide_eq_true_iff]
      have noq : ∀ v, v ≤ 4 → (∀ u, u < v → M.testBit u = true → dg (nv + 1) c u = nv) → ∀ x, c ≤ x → x < (c / (nv + 1) ^ v + 1) * (nv + 1) ^ v → Qr B tab (nv + 1) L Rr x = false := fun v hv hu x hx1 hx2 => by
        by_cases ex : x = c
        · rw [ex]; exact hqf
        · cases hq : Qr B tab (nv + 1) L Rr x with
          | false => rfl
          | true =>
            exfalso
            refine dg_gap (mk := fun u => 0 < ctB B L u) hb hv (fun u h => ?_) (show c < x by omega) hx2 (Qr_iff.mp hq).1
            by_cases z : 0 < ctB B L u
            · exact Or.inl ⟨z, by rw [hu u h ((mk u (by omega)).mpr z)]; rfl⟩
            · exact Or.inr ⟨z, (hvl u (by omega)).resolve_right z⟩
      have tn := cTryL (N := N) (d := d + 31) (M := M) (nv := nv) (e := dg (nv + 1) c) m1 hn.2 N 0 w hs (by omega) (by omega) (fun v hv _ => ⟨h37 v hv, dle c v⟩)
      have etn : ∀ x, eX7_tryNext N (d + 32) w x = fX7_tryNext_2 N (d + 31) N w x (nI 0) := fun x => rfl
      rw [etn]
      rcases tn with ⟨v, g, r1, r2, r3, r4, r5, r6, r7⟩ | ⟨r1, g, r2⟩
      · rw [r6, cl_s, nI_1]
        obtain ⟨n1, n2, n3⟩ := dg_next (c := c) hb r2 hc (show dg (nv + 1) c v < nv + 1 - 1 by omega)
        have hskip := noq v (by omega) (fun u h h3 => r5 u (Nat.zero_le _) h h3)
        generalize hc2 : (c / (nv + 1) ^ v + 1) * (nv + 1) ^ v = c2 at *
        have R5 : RB B (pA w 37 g) := R
        have g37 : ∀ u, aI (pA w 37 g) 37 u = g u := fun u => by rw [aI_pA, if_pos rfl]
        have fr5 : Fr noS rcA w (pA w 37 g) := fr4.pa rfl
        have v2 : vld B (nv + 1) L c2 := fun u hu => by
          rw [n3 u hu]
          by_cases q : u < v
          · rw [if_pos q]; exact Or.inl rfl
          · rw [if_neg q]
            by_cases q2 : u = v
            · rw [q2]; exact Or.inr ((mk v (by omega)).mp r3)
            · rw [if_neg q2]; exact hvl u hu
        have d2 : ∀ u, u < 4 → aI (pA w 37 g) 37 u = nI (dg (nv + 1) c2 u) := fun u hu => by
          rw [g37, r7 u, n3 u hu]
          by_cases q : u = v
          · rw [if_pos q, if_neg (by omega), if_pos q]
          · rw [if_neg q]
            by_cases q2 : u < v
            · rw [if_pos q2]
              by_cases q4 : M.testBit u = true
              · rw [if_pos ⟨Nat.zero_le _, q2, q4⟩]; rfl
              · rw [if_neg (fun z => q4 z.2.2)]
                have : aI w 37 u = nI (dg (nv + 1) c u) := h37 u hu
                rw [this, (hvl u hu).resolve_right (fun z => q4 ((mk u (by omega)).mpr z))]
            · rw [if_neg (fun z => q2 z.2.1), if_neg q2, if_neg q]
              exact h37 u hu
        have d3 : ∀ u, u < 8 → 4 ≤ u → aI (pA w 37 g) 37 u = 0 := fun u hu h4 => by
          rw [g37, r7 u, if_neg (by omega), if_neg (by omega)]
          exact h38 u hu h4
        obtain ⟨w2, s1, s2, s3⟩ := ih c2 (lk + 1) (pA w 37 g) R5 hs h35 n2 (by omega) (by omega) v2 d2 d3
        have esc : scan (Qr B tab (nv + 1) L Rr) ((nv + 1) ^ 4 - c) c = scan (Qr B tab (nv + 1) L Rr) ((nv + 1) ^ 4 - c2) c2 := by
          have := scan_skip (Q := Qr B tab (nv + 1) L Rr) ((nv + 1) ^ 4 - c2) (c2 - c) c (fun x h3 h4 => hskip x h3 (by omega))
          rw [show (nv + 1) ^ 4 - c2 + (c2 - c) = (nv + 1) ^ 4 - c by omega, show c + (c2 - c) = c2 by omega] at this
          exact this
        rw [esc]
        exact ⟨w2, fr5.tr s1, s2, s3⟩
      · rw [r2, cl_s, nI_1]
        have hskip := noq 4 (by omega) (fun u h h3 => r1 u (Nat.zero_le _) h h3)
        have esc : scan (Qr B tab (nv + 1) L Rr) ((nv + 1) ^ 4 - c) c = none := by
          have := scan_skip (Q := Qr B tab (nv + 1) L Rr) 0 ((nv + 1) ^ 4 - c) c (fun x h3 h4 => hskip x h3 (by
            have : c / (nv + 1) ^ 4 = 0 := Nat.div_eq_of_lt hc
            rw [this]
            omega))
          rw [show 0 + ((nv + 1) ^ 4 - c) = (nv + 1) ^ 4 - c by omega] at this
          rw [this]
          rfl
        rw [esc]
        refine ⟨pA w 37 g, fr4.pa rfl, fun c2 h => (by cases h), fun _ => ?_⟩
        obtain ⟨n2, rfl⟩ : ∃ n2, n = n2 + 1 := ⟨n - 1, by omega⟩
        show bX7_refutes_13 N (d + 32) (fX7_refutes_13 N (d + 32) n2) _ _ _ 0 _ = _
        unfold bX7_refutes_13 bX7_refutes_61
        rw [if_pos i00]
        split <;> rfl
    · rw [if_neg (fun z => q3 (veq.mp z)), hkk]
      have hq : Qr B tab (nv + 1) L Rr c = true := Qr_iff.mpr ⟨hvl, q3⟩
      have sc : scan (Qr B tab (nv + 1) L Rr) (kk + 1) c = some c := by
        show (if Qr B tab (nv + 1) L Rr c = true then some c else _) = _
        rw [hq, if_pos rfl]
      rw [sc]
      refine ⟨_, fr4, fun c2 hc2 => ⟨rfl, fun v hv => ?_⟩, fun hc2 => (by cases hc2)⟩
      cases hc2
      exact h37 v hv
