/-! terms in place of variables -/
def fl (Bs : Bk) (σ : Nat → Nat) : Nat → Bk → Nat → Option (Bk × Nat)
  | 0 => fun _ _ => none
  | f + 1 => fun B t =>
    if hB Bs t < 10 then
      (if 1 ≤ npB Bs t then
        (match fl Bs σ f B (aB Bs t) with
         | none => none
         | some x =>
           if 2 ≤ npB Bs t then
             (match fl Bs σ f x.1 (bB Bs t) with
              | none => none
              | some y => mkB y.1 (hB Bs t) x.2 y.2)
           else mkB x.1 (hB Bs t) x.2 2000)
       else mkB B (hB Bs t) 2000 2000)
    else some (B, σ (hB Bs t - 10))
theorem mkB_old {B : Bk} (G : GB B) {t : Nat} (ht : t < nB B) : mkB B (hB B t) (aB B t) (bB B t) = some (B, t) := by
  have g1 := G.1
  have h : fdB B (hB B t) (aB B t) (bB B t) (nB B) < 2000 := by
    apply Decidable.byContradiction
    intro z
    exact fdB_out (by omega) z t ht ⟨rfl, rfl, rfl⟩
  have f := fdB_in h
  unfold mkB
  rw [if_pos h, G.2.2.2.2.2.1 _ t f.1 ht f.2.1 f.2.2.1 f.2.2.2]
theorem fl_gnd {Bs B : Bk} (G : GB B) (Gs : GB Bs) (e : Ext Bs B) {σ : Nat → Nat} : ∀ k t, t < nB Bs → szB Bs t ≤ k → k ≤ 30 → gnd Bs t → fl Bs σ k B t = some (B, t) := by
  intro k
  induction k with
  | zero => intro t ht h; have := (Gs.sz_le ht).2.1; omega
  | succ k ih =>
    intro t ht hs hk hg
    have hga := gnd_a Gs ht hg
    have et := e.2.2.2.2 t ht
    have old := mkB_old G (t := t) (by have := e.1; omega)
    rw [et.1, et.2.1, et.2.2.1] at old
    unfold fl
    rw [if_pos hga.1]
    by_cases n1 : 1 ≤ npB Bs t
    · have pa := sz_a Gs ht (by omega) n1
      rw [if_pos n1, ih _ pa.1 (by omega) (by omega) (hga.2.1 n1)]
      by_cases n2 : 2 ≤ npB Bs t
      · have pb := sz_b Gs ht (by omega) n2
        simp only [if_pos n2]
        rw [ih _ pb.1 (by omega) (by omega) (hga.2.2 n2)]
        exact old
      · simp only [if_neg n2]
        rw [(Gs.np ht).2.2.2.2.2 n2] at old
        exact old
    · rw [if_neg n1]
      rw [(Gs.np ht).2.2.2.2.2 (by omega), (Gs.np ht).2.2.2.2.1 n1] at old
      exact old
/-- the variables of a term have terms -/
def vOK (Bs B : Bk) (σ : Nat → Nat) (t : Nat) : Prop := ∀ v, v < 8 → 0 < ctB Bs t v → σ v < nB B
theorem vOK.pa {Bs B : Bk} (Gs : GB Bs) {σ : Nat → Nat} {t : Nat} (ht : t < nB Bs) (h : vOK Bs B σ t) : (1 ≤ npB Bs t → vOK Bs B σ (aB Bs t)) ∧ (2 ≤ npB Bs t → vOK Bs B σ (bB Bs t)) ∧ (10 ≤ hB Bs t → σ (hB Bs t - 10) < nB B) := by
  have hc : ∀ v, v < 8 → (1 ≤ npB Bs t → 0 < ctB Bs (aB Bs t) v → 0 < ctB Bs t v) ∧ (2 ≤ npB Bs t → 0 < ctB Bs (bB Bs t) v → 0 < ctB Bs t v) := fun v hv => by
    rw [mB_cap Gs ht hv]
    refine ⟨fun q q2 => capN_pos ?_, fun q q2 => capN_pos ?_⟩
    · unfold two; rw [if_pos q]; omega
    · unfold two; rw [if_pos q]; omega
  refine ⟨fun n v hv q => h v hv ((hc v hv).1 n q), fun n v hv q => h v hv ((hc v hv).2 n q), fun n => ?_⟩
  have hal := (Gs.a_le ht).2.2
  refine h _ (by omega) ?_
  rw [mB_cap Gs ht (by omega)]
  refine capN_pos ?_
  rw [if_pos (by omega)]
  omega
theorem vOK.ext {Bs B B2 : Bk} {σ : Nat → Nat} {t : Nat} (h : vOK Bs B σ t) (e : Ext B B2) : vOK Bs B2 σ t := fun v hv q => Nat.lt_of_lt_of_le (h v hv q) e.1
theorem VN.of {Bs B : Bk} (Gs : GB Bs) (e : Ext Bs B) {t a b : Nat} (ht : t < nB Bs) (ha : if 1 ≤ npB Bs t then a < nB B else a = 2000) (hb : if 2 ≤ npB Bs t then b < nB B else b = 2000) : VN B (hB Bs t) a b := by
  have h5 := (Gs.2.2.2.2.1 t ht).1
  refine ⟨by rw [e.2.1]; exact h5, ?_, ?_⟩
  · rw [e.2.2.1]; exact ha
  · rw [e.2.2.1]; exact hb
theorem fl_ok {Bs : Bk} (Gs : GB Bs) {σ : Nat → Nat} : ∀ k B t B2 x, GB B → Ext Bs B → t < nB Bs → vOK Bs B σ t → fl Bs σ k B t = some (B2, x) → GB B2 ∧ Ext B B2 ∧ x < nB B2 := by
  intro k
  induction k with
  | zero => intro B t B2 x _ _ _ _ h; cases h
  | succ k ih =>
    intro B t B2 x G e ht hv h
    have vp := hv.pa Gs ht
    have hnp := Gs.np ht
    unfold fl at h
    by_cases q1 : hB Bs t < 10
    · rw [if_pos q1] at h
      by_cases n1 : 1 ≤ npB Bs t
      · have la := hnp.2.2.1 n1
        rw [if_pos n1] at h
        cases h1 : fl Bs σ k B (aB Bs t) with
        | none => rw [h1] at h; cases h
        | some y =>
          obtain ⟨B3, a⟩ := y
          rw [h1] at h
          obtain ⟨G3, e3, ha⟩ := ih B _ B3 a G e (by omega) (vp.1 n1) h1
          by_cases n2 : 2 ≤ npB Bs t
          · have lb := hnp.2.2.2.1 n2
            simp only [if_pos n2] at h
            cases h2 : fl Bs σ k B3 (bB Bs t) with
            | none => rw [h2] at h; cases h
            | some z =>
              obtain ⟨B4, b⟩ := z
              rw [h2] at h
              obtain ⟨G4, e4, hb⟩ := ih B3 _ B4 b G3 (e.tr e3) (by omega) ((vp.2.1 n2).ext e3) h2
              have hvn : VN B4 (hB Bs t) a b := VN.of Gs ((e.tr e3).tr e4) ht (by rw [if_pos n1]; have := e4.1; omega) (by rw [if_pos n2]; exact hb)
              have mk := mkB_ok G4 hvn h
              exact ⟨mk.1, (e3.tr e4).tr mk.2.1, mk.2.2.1⟩
          · simp only [if_neg n2] at h
            have hvn : VN B3 (hB Bs t) a 2000 := VN.of Gs (e.tr e3) ht (by rw [if_pos n1]; exact ha) (by rw [if_neg n2])
            have mk := mkB_ok G3 hvn h
            exact ⟨mk.1, e3.tr mk.2.1, mk.2.2.1⟩
      · rw [if_neg n1] at h
        have hvn : VN B (hB Bs t) 2000 2000 := VN.of Gs e ht (by rw [if_neg n1]) (by rw [if_neg (by omega)])
        have mk := mkB_ok G hvn h
        exact ⟨mk.1, mk.2.1, mk.2.2.1⟩
    · rw [if_neg q1] at h
      cases h
      exact ⟨G, Ext.rf B, vp.2.2 (by omega)⟩
theorem nI_m4 {x : Nat} (h : x < 2 ^ 31) : ¬ nI x = -4 := fun q => by
  have h1 := congrArg Int32.toInt q
  rw [nI_toInt h] at h1
  have : (-4 : Int32).toInt = -4 := by decide
  omega
theorem cInst {Bs : Bk} (Gs : GB Bs) {N : Nat} {σ : Nat → Nat} (hN : 2000000 ≤ N) : ∀ k d t lev B w, GB B → Ext Bs B → RB B w → t < nB Bs → szB Bs t ≤ k → lev + k ≤ 31 → k ≤ 30 → (∀ v, 4 ≤ v → v < 8 → ctB Bs t v = 0) → (∀ v, v < 4 → aI w 29 v = eN (σ v)) → vOK Bs B σ t →
    (∀ B2 x, fl Bs σ k B t = some (B2, x) → ∃ w2, eX3_instance N (d + k + 2) w (nI t) (nI lev) = some (w2, nI x) ∧ RB B2 w2 ∧ FrB w w2) ∧ (fl Bs σ k B t = none → ∃ w2 B2, eX3_instance N (d + k + 2) w (nI t) (nI lev) = some (w2, -4) ∧ RB B2 w2 ∧ GB B2 ∧ Ext B B2 ∧ FrB w w2) := by
  have gs1 := Gs.1
  intro k
  induction k with
  | zero => intro d t lev B w _ _ _ ht h; have := (Gs.sz_le ht).2.1; omega
  | succ k ih =>
    intro d t lev B w G e R ht hs hl hk hc h29 hv
    have g1 := G.1
    have en := e.1
    have htb : t < nB B := by omega
    have key : eX3_instance N (d + (k + 1) + 2) w (nI t) (nI lev) = bX3_instance_0 N (d + k + 2) (eX3_instance N (d + k + 2)) w (nI t) (nI lev) := rfl
    have et := e.2.2.2.2 t ht
    have gnde : gnd B t ↔ gnd Bs t := by unfold gnd; rw [et.2.2.2.2.2]
    rw [key]
    unfold bX3_instance_0
    rw [ld_n (by omega) (by omega)]
    by_cases q : gnd Bs t
    · rw [if_pos ((cVars R htb).mpr (gnde.mpr q)), fl_gnd G Gs e _ t ht hs hk q]
      refine ⟨fun B2 x h => ?_, fun h => (by cases h)⟩
      cases h
      exact ⟨w, rfl, R, FrB.rf w⟩
    · have vp := hv.pa Gs ht
      have hnp := Gs.np ht
      have hr := R.2.2.2.1 t htb
      rw [et.1, et.2.1, et.2.2.1] at hr
      rw [if_neg (fun z => q (gnde.mp ((cVars R htb).mp z))), cIsVar G R htb, cl_s, et.1]
      generalize hX : fl Bs σ (k + 1) B t = X
      unfold fl at hX
      by_cases q1 : hB Bs t < 10
      · have n1 := ngnd_np Gs ht q q1
        have pa := sz_a Gs ht (by omega) n1
        rw [if_pos q1, if_pos n1] at hX
        rw [if_pos q1, if_pos i00, if_pos (show nI lev ≤ 30 by rw [show (30 : Int32) = nI 30 from rfl, nI_leI (by omega) (by omega)]; omega), ld_n (by omega) (by omega), hr.2.1, eN_n (by omega), nI_1]
        obtain ⟨i1, i2⟩ := ih d (aB Bs t) (lev + 1) B w G e R pa.1 (by omega) (by omega) (by omega) (fun v h4 h8 => (ct_up Gs ht h8 (hc v h4 h8)).1 n1) h29 (vp.1 n1)
        cases h1 : fl Bs σ k B (aB Bs t) with
        | none =>
          rw [h1] at hX
          subst hX
          obtain ⟨w2, B2, j1, j2, j3, j4, j5⟩ := i2 h1
          rw [j1, cl_s, if_pos rfl]
          exact ⟨fun B2 x h => (by cases h), fun _ => ⟨w2, B2, rfl, j2, j3, j4, j5⟩⟩
        | some y =>
          obtain ⟨B3, a⟩ := y
          rw [h1] at hX
          obtain ⟨G3, e3, ha⟩ := fl_ok Gs k B _ B3 a G e pa.1 (vp.1 n1) h1
          obtain ⟨w2, j1, j2, j3⟩ := i1 B3 a h1
          have g31 := G3.1
          have en3 := e3.1
          rw [j1, cl_s, if_neg (nI_m4 (by omega))]
          have et3 := (e.tr e3).2.2.2.2 t ht
          have hr3 := j2.2.2.2.1 t (by omega)
          rw [et3.1, et3.2.2.1] at hr3
          have f29 : ∀ v, v < 4 → aI w2 29 v = eN (σ v) := fun v hv4 => by rw [(j3.2.1 29 (by omega)).1]; exact h29 v hv4
          rw [ld_n (by omega) (by omega), hr3.2.2.1, ld_n (by omega) (by omega), hr3.2.2.1]
          unfold bX3_instance_111 bX3_instance_144
          by_cases n2 : 2 ≤ npB Bs t
          · have pb := sz_b Gs ht (by omega) n2
            simp only [if_pos n2] at hX
            rw [if_neg (eN_m1 (by omega)), eN_n (by omega)]
            obtain ⟨k1, k2⟩ := ih d (bB Bs t) (lev + 1) B3 w2 G3 (e.tr e3) j2 pb.1 (by omega) (by omega) (by omega) (fun v h4 h8 => (ct_up Gs ht h8 (hc v h4 h8)).2.1 n2) f29 ((vp.2.1 n2).ext e3)
            cases h2 : fl Bs σ k B3 (bB Bs t) with
            | none =>
              rw [h2] at hX
              subst hX
              obtain ⟨w4, B4, l1, l2, l3, l4, l5⟩ := k2 h2
              rw [l1, cl_s, if_pos rfl]
              exact ⟨fun B2 x h => (by cases h), fun _ => ⟨w4, B4, rfl, l2, l3, e3.tr l4, j3.tr l5⟩⟩
            | some z =>
              obtain ⟨B4, b⟩ := z
              rw [h2] at hX
              obtain ⟨G4, e4, hb⟩ := fl_ok Gs k B3 _ B4 b G3 (e.tr e3) pb.1 ((vp.2.1 n2).ext e3) h2
              obtain ⟨w4, l1, l2, l3⟩ := k1 B4 b h2
              have g41 := G4.1
              have en4 := e4.1
              have et4 := ((e.tr e3).tr e4).2.2.2.2 t ht
              have hr4 := l2.2.2.2.1 t (by omega)
              rw [et4.1] at hr4
              have hvn : VN B4 (hB Bs t) a b := VN.of Gs ((e.tr e3).tr e4) ht (by rw [if_pos n1]; omega) (by rw [if_pos n2]; exact hb)
              rw [l1, cl_s, if_neg (nI_m4 (by omega)), ld_n (by omega) (by omega), hr4.1]
              obtain ⟨m1, m2⟩ := cMk (d := d + k) G4 l2 hN hvn
              rw [eN_n (show a < 2000 by omega), eN_n (show b < 2000 by omega)] at m1 m2
              have hX2 : mkB B4 (hB Bs t) a b = X := hX
              rw [← hX2]
              refine ⟨fun B2 x h => ?_, fun h => ?_⟩
              · obtain ⟨w5, n1, n2, n3⟩ := m1 B2 x h
                rw [n1, cl_s]
                exact ⟨w5, rfl, n2, (j3.tr l3).tr n3⟩
              · rw [m2 h, cl_s]
                exact ⟨w4, B4, rfl, l2, G4, e3.tr e4, j3.tr l3⟩
          · simp only [if_neg n2] at hX
            rw [if_pos (by rw [hnp.2.2.2.2.2 n2]; rfl), if_neg (show ¬ (-1 : Int32) = -4 by decide), ld_n (by omega) (by omega), hr3.1]
            have hvn : VN B3 (hB Bs t) a 2000 := VN.of Gs (e.tr e3) ht (by rw [if_pos n1]; exact ha) (by rw [if_neg n2])
            obtain ⟨m1, m2⟩ := cMk (d := d + k) G3 j2 hN hvn
            rw [eN_n (show a < 2000 by omega), eN_no] at m1 m2
            rw [← hX]
            refine ⟨fun B2 x h => ?_, fun h => ?_⟩
            · obtain ⟨w5, n1, n2, n3⟩ := m1 B2 x h
              rw [n1, cl_s]
              exact ⟨w5, rfl, n2, j3.tr n3⟩
            · rw [m2 h, cl_s]
              exact ⟨w2, B3, rfl, j2, G3, e3, j3⟩
      · rw [if_neg q1] at hX
        subst hX
        have hal := (Gs.a_le ht).2.2
        have hv4 : hB Bs t - 10 < 4 := by
          apply Decidable.byContradiction
          intro z
          have := (ct_up Gs ht (v := hB Bs t - 10) (by omega) (hc _ (by omega) (by omega))).2.2
          omega
        have hsv := vp.2.2 (by omega)
        rw [if_neg q1, if_neg i10, ld_n (by omega) (by omega), hr.1, show (10 : Int32) = nI 10 from rfl, pk_sub (by omega), ld_n (by omega) (by omega), h29 _ hv4, eN_n (by omega)]
        refine ⟨fun B2 x h => ?_, fun h => (by cases h)⟩
        cases h
        exact ⟨w, rfl, R, FrB.rf w⟩
