/-! fitting -/
def bd (B : Bk) : Nat → (Nat → Nat) → Nat → Nat → Option (Nat → Nat)
  | 0 => fun _ _ _ => none
  | f + 1 => fun σ p t =>
    if hB B p < 10 then
      (if hB B p = hB B t then
        (if 1 ≤ npB B p then
          (match bd B f σ (aB B p) (aB B t) with
           | none => none
           | some σ1 => if 2 ≤ npB B p then bd B f σ1 (bB B p) (bB B t) else some σ1)
         else some σ)
       else none)
    else (if σ (hB B p - 10) = 2000 then some (fu σ (hB B p - 10) t) else if σ (hB B p - 10) = t then some σ else none)
def sOK (B : Bk) (σ : Nat → Nat) : Prop := ∀ v, σ v < nB B ∨ σ v = 2000
theorem sOK.up {B : Bk} {σ : Nat → Nat} {v t : Nat} (h : sOK B σ) (ht : t < nB B) : sOK B (fu σ v t) := fun u => by
  unfold fu
  split
  · exact Or.inl ht
  · exact h u
theorem bd_ok {B : Bk} (G : GB B) : ∀ k σ p t σ2, p < nB B → t < nB B → sOK B σ → bd B k σ p t = some σ2 → sOK B σ2 := by
  intro k
  induction k with
  | zero => intro σ p t σ2 _ _ _ h; cases h
  | succ k ih =>
    intro σ p t σ2 hp ht hs h
    unfold bd at h
    by_cases q1 : hB B p < 10
    · rw [if_pos q1] at h
      by_cases q2 : hB B p = hB B t
      · rw [if_pos q2] at h
        have npe : npB B p = npB B t := by unfold npB; rw [q2]
        by_cases q3 : 1 ≤ npB B p
        · have pa := (G.np hp).2.2.1 q3
          have ta := (G.np ht).2.2.1 (by omega)
          rw [if_pos q3] at h
          cases h1 : bd B k σ (aB B p) (aB B t) with
          | none => rw [h1] at h; cases h
          | some σ1 =>
            rw [h1] at h
            have hs1 := ih _ _ _ _ (by omega) (by omega) hs h1
            by_cases q4 : 2 ≤ npB B p
            · have pb := (G.np hp).2.2.2.1 q4
              have tb := (G.np ht).2.2.2.1 (by omega)
              simp only [if_pos q4] at h
              exact ih _ _ _ _ (by omega) (by omega) hs1 h
            · simp only [if_neg q4] at h
              cases h
              exact hs1
        · rw [if_neg q3] at h
          cases h
          exact hs
      · rw [if_neg q2] at h
        cases h
    · rw [if_neg q1] at h
      split at h
      · cases h
        exact hs.up ht
      · split at h
        · cases h
          exact hs
        · cases h
theorem bd_gnd {B : Bk} (G : GB B) : ∀ k σ p t, p < nB B → t < nB B → szB B p ≤ k → k ≤ 30 → gnd B p → bd B k σ p t = if p = t then some σ else none := by
  intro k
  induction k with
  | zero => intro σ p t hp _ h; have := (G.sz_le hp).2.1; omega
  | succ k ih =>
    intro σ p t hp ht hs hk hg
    have hga := gnd_a G hp hg
    unfold bd
    rw [if_pos hga.1]
    by_cases q2 : hB B p = hB B t
    · rw [if_pos q2]
      have npe : npB B p = npB B t := by unfold npB; rw [q2]
      have uq := G.2.2.2.2.2.1 p t hp ht q2
      by_cases q3 : 1 ≤ npB B p
      · have pa := sz_a G hp (by omega) q3
        have ta := (G.np ht).2.2.1 (by omega)
        rw [if_pos q3, ih σ _ _ pa.1 (by omega) (by omega) (by omega) (hga.2.1 q3)]
        by_cases e : aB B p = aB B t
        · rw [if_pos e]
          by_cases q4 : 2 ≤ npB B p
          · have pb := sz_b G hp (by omega) q4
            have tb := (G.np ht).2.2.2.1 (by omega)
            simp only [if_pos q4]
            rw [ih σ _ _ pb.1 (by omega) (by omega) (by omega) (hga.2.2 q4)]
            by_cases e2 : bB B p = bB B t
            · rw [if_pos e2, if_pos (uq e e2)]
            · rw [if_neg e2, if_neg (fun z => e2 (by rw [z]))]
          · simp only [if_neg q4]
            rw [if_pos (uq e (by rw [(G.np hp).2.2.2.2.2 q4, (G.np ht).2.2.2.2.2 (by omega)]))]
        · rw [if_neg e, if_neg (fun z => e (by rw [z]))]
      · rw [if_neg q3, if_pos (uq (by rw [(G.np hp).2.2.2.2.1 q3, (G.np ht).2.2.2.2.1 (by omega)]) (by rw [(G.np hp).2.2.2.2.2 (by omega), (G.np ht).2.2.2.2.2 (by omega)]))]
    · rw [if_neg q2, if_neg (fun z => q2 (by rw [z]))]
theorem ct_up {B : Bk} (G : GB B) {t v : Nat} (ht : t < nB B) (hv : v < 8) (h : ctB B t v = 0) : (1 ≤ npB B t → ctB B (aB B t) v = 0) ∧ (2 ≤ npB B t → ctB B (bB B t) v = 0) ∧ hB B t ≠ 10 + v := by
  rw [mB_cap G ht hv] at h
  have h0 := capN_0.mp h
  unfold two at h0
  refine ⟨fun q => ?_, fun q => ?_, fun q => ?_⟩
  · rw [if_pos q] at h0; omega
  · rw [if_pos q] at h0; omega
  · rw [if_pos q] at h0; omega
theorem cFits {B : Bk} (G : GB B) {N : Nat} : ∀ k d σ p t lev w, RB B w → p < nB B → t < nB B → szB B p ≤ k → lev + k ≤ 31 → k ≤ 30 → (∀ v, 4 ≤ v → v < 8 → ctB B p v = 0) → (∀ v, v < 4 → aI w 29 v = eN (σ v)) → sOK B σ →
    ∃ f, (∀ σ2, bd B k σ p t = some σ2 → eX3_fits N (d + k + 1) w (nI p) (nI t) (nI lev) = some (pA w 29 f, 1) ∧ ∀ v, v < 4 → f v = eN (σ2 v)) ∧ (bd B k σ p t = none → eX3_fits N (d + k + 1) w (nI p) (nI t) (nI lev) = some (pA w 29 f, 0)) := by
  have g1 := G.1
  intro k
  induction k with
  | zero => intro d σ p t lev w _ hp _ h; have := (G.sz_le hp).2.1; omega
  | succ k ih =>
    intro d σ p t lev w R hp ht hs hl hk hc h29 hσ
    have key : eX3_fits N (d + (k + 1) + 1) w (nI p) (nI t) (nI lev) = bX3_fits_0 N (d + k + 1) (eX3_fits N (d + k + 1)) w (nI p) (nI t) (nI lev) := rfl
    rw [key]
    by_cases q : gnd B p
    · rw [bd_gnd G _ σ p t hp ht hs hk q]
      unfold bX3_fits_0 bX3_fits_22
      rw [ld_n (by omega) (by omega), if_pos ((cVars R hp).mpr q)]
      refine ⟨aI w 29, fun σ2 h => ?_, fun h => ?_⟩
      · by_cases e : p = t
        · rw [if_pos e] at h
          cases h
          rw [if_pos (by rw [e]), pA_eta]
          exact ⟨bo01 (Or.inr rfl), h29⟩
        · rw [if_neg e] at h
          cases h
      · by_cases e : p = t
        · rw [if_pos e] at h
          cases h
        · rw [if_neg (fun z => e ((nI_eq (by omega) (by omega)).mp z)), pA_eta]
          exact bo01 (Or.inl rfl)
    · have hrp := R.2.2.2.1 p hp
      have hrt := R.2.2.2.1 t ht
      have alp := G.a_le hp
      have alt := G.a_le ht
      unfold bX3_fits_0 bX3_fits_186 bX3_fits_182 bX3_fits_187 bX3_fits_111
      simp only [c_nm]
      rw [ld_n (by omega) (by omega), if_neg (fun z => q ((cVars R hp).mp z)), cIsVar G R hp, cl_s]
      generalize hX : bd B (k + 1) σ p t = X
      unfold bd at hX
      by_cases q1 : hB B p < 10
      · have n1 := ngnd_np G hp q q1
        have pa := sz_a G hp (by omega) n1
        rw [if_pos q1] at hX
        rw [if_pos q1, if_pos i00, ld_n (by omega) (by omega), hrp.1, ld_n (by omega) (by omega), hrt.1]
        by_cases q2 : hB B p = hB B t
        · have npe : npB B p = npB B t := by unfold npB; rw [q2]
          have ta := (G.np ht).2.2.1 (by omega)
          rw [if_pos q2, if_pos n1] at hX
          rw [if_pos (by rw [q2]), if_pos (show nI lev ≤ 30 by rw [show (30 : Int32) = nI 30 from rfl, nI_leI (by omega) (by omega)]; omega), ld_n (by omega) (by omega), hrp.2.1, ld_n (by omega) (by omega), hrt.2.1, eN_n (by omega), eN_n (by omega), nI_1]
          obtain ⟨f, f1, f2⟩ := ih d σ (aB B p) (aB B t) (lev + 1) w R pa.1 (by omega) (by omega) (by omega) (by omega) (fun v h4 h8 => (ct_up G hp h8 (hc v h4 h8)).1 n1) h29 hσ
          cases h1 : bd B k σ (aB B p) (aB B t) with
          | none =>
            rw [h1] at hX
            subst hX
            rw [f2 h1, cl_s, if_pos i00]
            exact ⟨f, fun σ2 h => (by cases h), fun _ => bo01 (Or.inl rfl)⟩
          | some σ1 =>
            obtain ⟨f3, f4⟩ := f1 σ1 h1
            rw [h1] at hX
            rw [f3, cl_s, if_neg i10]
            have R2 : RB B (pA w 29 f) := R
            have hrp2 := R2.2.2.2.1 p hp
            have hrt2 := R2.2.2.2.1 t ht
            rw [ld_n (by omega) (by omega), hrp2.2.2.1, ld_n (by omega) (by omega), hrp2.2.2.1, ld_n (by omega) (by omega), hrt2.2.2.1]
            by_cases n2 : 2 ≤ npB B p
            · have pb := sz_b G hp (by omega) n2
              have tb := (G.np ht).2.2.2.1 (by omega)
              simp only [if_pos n2] at hX
              subst hX
              rw [if_neg (eN_m1 (by omega)), eN_n (by omega), eN_n (by omega)]
              have hσ1 := bd_ok G k σ _ _ σ1 pa.1 (show aB B t < nB B by omega) hσ h1
              obtain ⟨g, g2, g3⟩ := ih d σ1 (bB B p) (bB B t) (lev + 1) (pA w 29 f) R2 pb.1 (by omega) (by omega) (by omega) (by omega) (fun v h4 h8 => (ct_up G hp h8 (hc v h4 h8)).2.1 n2) (fun v hv => by rw [aI_pA, if_pos rfl]; exact f4 v hv) hσ1
              rw [pA_pA] at g2 g3
              refine ⟨g, fun σ2 h => ?_, fun h => ?_⟩
              · obtain ⟨g4, g5⟩ := g2 σ2 h
                rw [g4, cl_s, if_neg i10]
                exact ⟨bo01 (Or.inr rfl), g5⟩
              · rw [g3 h, cl_s, if_pos i00]
                exact bo01 (Or.inl rfl)
            · simp only [if_neg n2] at hX
              subst hX
              rw [if_pos (by rw [(G.np hp).2.2.2.2.2 n2]; rfl)]
              refine ⟨f, fun σ2 h => ?_, fun h => (by cases h)⟩
              cases h
              exact ⟨bo01 (Or.inr rfl), f4⟩
        · rw [if_neg q2] at hX
          subst hX
          rw [if_neg (fun z => q2 ((nI_eq (by omega) (by omega)).mp z))]
          exact ⟨aI w 29, fun σ2 h => (by cases h), fun _ => by rw [pA_eta]⟩
      · rw [if_neg q1] at hX
        rw [if_neg q1, if_neg i10, ld_n (by omega) (by omega), hrp.1, show (10 : Int32) = nI 10 from rfl, pk_sub (by omega)]
        have hv4 : hB B p - 10 < 4 := by
          apply Decidable.byContradiction
          intro z
          have := (ct_up G hp (v := hB B p - 10) (by omega) (hc _ (by omega) (by omega))).2.2
          omega
        have hsv := hσ (hB B p - 10)
        rw [ld_n (by omega) (by omega), h29 _ hv4]
        unfold bX3_fits_67 bX3_fits_83
        by_cases q3 : σ (hB B p - 10) = 2000
        · rw [if_pos q3] at hX
          subst hX
          rw [if_pos (by rw [q3]; rfl), st_n (by omega) (by omega), ld_n (by omega) (by omega), aI_pA, if_pos rfl, upd_s, if_pos rfl]
          refine ⟨_, fun σ2 h => ⟨bo01 (Or.inr rfl), fun v hv => ?_⟩, fun h => (by cases h)⟩
          cases h
          by_cases e : v = hB B p - 10
          · rw [e, upd_s, fu_s, eN_n (by omega)]
          · rw [upd_n e, fu_n e]; exact h29 v hv
        · rw [if_neg q3] at hX
          rw [if_neg (eN_m1 (by omega)), ld_n (by omega) (by omega), h29 _ hv4, eN_n (by omega)]
          by_cases q4 : σ (hB B p - 10) = t
          · rw [if_pos q4] at hX
            subst hX
            rw [if_pos (by rw [q4])]
            refine ⟨aI w 29, fun σ2 h => ?_, fun h => (by cases h)⟩
            cases h
            rw [pA_eta]
            exact ⟨bo01 (Or.inr rfl), h29⟩
          · rw [if_neg q4] at hX
            subst hX
            rw [if_neg (fun z => q4 ((nI_eq (by omega) (by omega)).mp z))]
            exact ⟨aI w 29, fun σ2 h => (by cases h), fun _ => by rw [pA_eta]; exact bo01 (Or.inl rfl)⟩
theorem mBinds {B : Bk} (G : GB B) {N : Nat} (hN : 2000000 ≤ N) : ∀ k d σ p t w, RM B w → p < nB B → t < nB B → szB B p ≤ k → k ≤ 30 → (∀ v, v < 8 → aI w 12 v = eN (σ v)) → sOK B σ →
    ∃ f, (∀ σ2, bd B k σ p t = some σ2 → eX11_binds N (d + k + 2) w (nI p) (nI t) = some (pA w 12 f, 1) ∧ ∀ v, v < 8 → f v = eN (σ2 v)) ∧ (bd B k σ p t = none → eX11_binds N (d + k + 2) w (nI p) (nI t) = some (pA w 12 f, 0)) := by
  have g1 := G.1
  intro k
  induction k with
  | zero => intro d σ p t w _ hp _ h; have := (G.sz_le hp).2.1; omega
  | succ k ih =>
    intro d σ p t w R hp ht hs hk h12 hσ
    have key : eX11_binds N (d + (k + 1) + 2) w (nI p) (nI t) = bX11_binds_0 N (d + k + 2) (eX11_binds N (d + k + 2)) w (nI p) (nI t) := rfl
    rw [key]
    have hrp := R.2.2.2.2.1 p hp
    have hrt := R.2.2.2.2.1 t ht
    have alp := G.a_le hp
    have alt := G.a_le ht
    have hnp := (G.np hp).1
    unfold bX11_binds_0
    rw [mIsVar G R hp, cl_s]
    generalize hX : bd B (k + 1) σ p t = X
    unfold bd at hX
    by_cases q1 : hB B p < 10
    · rw [if_pos q1] at hX
      rw [if_pos q1, if_pos i00, ld_n (by omega) (by omega), hrp.1, ld_n (by omega) (by omega), hrt.1]
      by_cases q2 : hB B p = hB B t
      · rw [if_pos q2] at hX
        rw [if_pos (by rw [q2])]
        have npe : npB B p = npB B t := by unfold npB; rw [q2]
        obtain ⟨N2, hN2⟩ : ∃ N2, N = N2 + 1 + 1 + 1 := ⟨N - 3, by omega⟩
        have parts : ∀ n w j, fX11_binds_66 N (d + k + 2) (eX11_binds N (d + k + 2)) (n + 1) w (nI p) (nI t) j = bX11_binds_66 N (d + k + 2) (eX11_binds N (d + k + 2)) (fX11_binds_66 N (d + k + 2) (eX11_binds N (d + k + 2)) n) w (nI p) (nI t) j := fun n w j => rfl
        have hN3 : fX11_binds_66 N (d + k + 2) (eX11_binds N (d + k + 2)) N w (nI p) (nI t) 0 = fX11_binds_66 N (d + k + 2) (eX11_binds N (d + k + 2)) (N2 + 1 + 1 + 1) w (nI p) (nI t) (nI 0) := by rw [← hN2]; rfl
        rw [hN3, parts]
        unfold bX11_binds_66
        simp only [c_nm]
        rw [mParts G R hp, cl_s]
        by_cases n1 : 1 ≤ npB B p
        · have pa := sz_a G hp (by omega) n1
          have ta := (G.np ht).2.2.1 (by omega)
          rw [if_pos n1] at hX
          rw [if_neg (fun z => by rw [nI_leI (by omega) (by omega)] at z; omega)]
          have e0 : ∀ (x : Nat), x < nB B → eX11_partOf N (d + k + 2) w (nI x) (nI 0) = some (w, eN (aB B x)) := fun x hx => mPartOf0 G R hx
          rw [e0 p hp, cl_s, e0 t ht, cl_s, eN_n (by omega), eN_n (by omega)]
          obtain ⟨f, f1, f2⟩ := ih d σ (aB B p) (aB B t) w R pa.1 (by omega) (by omega) (by omega) h12 hσ
          cases h1 : bd B k σ (aB B p) (aB B t) with
          | none =>
            rw [h1] at hX
            subst hX
            rw [f2 h1, cl_s, if_pos i00]
            exact ⟨f, fun σ2 h => (by cases h), fun _ => rfl⟩
          | some σ1 =>
            obtain ⟨f3, f4⟩ := f1 σ1 h1
            rw [h1] at hX
            rw [f3, cl_s, if_neg i10, nI_1, parts]
            have R2 : RM B (pA w 12 f) := R
            unfold bX11_binds_66
            simp only [c_nm]
            rw [mParts G R2 hp, cl_s]
            by_cases n2 : 2 ≤ npB B p
            · have pb := sz_b G hp (by omega) n2
              have tb := (G.np ht).2.2.2.1 (by omega)
              rw [if_neg (fun z => by rw [nI_leI (by omega) (by omega)] at z; omega)]
              have e1 : ∀ (x : Nat), x < nB B → eX11_partOf N (d + k + 2) (pA w 12 f) (nI x) (nI (0 + 1)) = some (pA w 12 f, eN (bB B x)) := fun x hx => mPartOf1 (by decide) G R2 hx
              rw [e1 p hp, cl_s, e1 t ht, cl_s, eN_n (by omega), eN_n (by omega)]
              simp only [if_pos n2] at hX
              subst hX
              have hσ1 := bd_ok G k σ _ _ σ1 pa.1 (show aB B t < nB B by omega) hσ h1
              obtain ⟨g, g2, g3⟩ := ih d σ1 (bB B p) (bB B t) (pA w 12 f) R2 pb.1 (by omega) (by omega) (by omega) (fun v hv => by rw [aI_pA, if_pos rfl]; exact f4 v hv) hσ1
              rw [pA_pA] at g2 g3
              refine ⟨g, fun σ2 h => ?_, fun h => ?_⟩
              · obtain ⟨g4, g5⟩ := g2 σ2 h
                have R3 : RM B (pA w 12 g) := R
                rw [g4, cl_s, if_neg i10, parts]
                unfold bX11_binds_66
                rw [mParts G R3 hp, cl_s, if_pos]
                · exact ⟨rfl, g5⟩
                · rw [nI_1, nI_leI (by omega) (by omega)]; omega
              · rw [g3 h, cl_s, if_pos i00]
            · rw [if_pos ((nI_leI (by omega) (by omega)).mpr (by omega))]
              simp only [if_neg n2] at hX
              subst hX
              refine ⟨f, fun σ2 h => ?_, fun h => (by cases h)⟩
              cases h
              exact ⟨rfl, f4⟩
        · rw [if_neg n1] at hX
          subst hX
          rw [if_pos ((nI_leI (by omega) (by omega)).mpr (by omega))]
          refine ⟨aI w 12, fun σ2 h => ?_, fun h => (by cases h)⟩
          cases h
          rw [pA_eta]
          exact ⟨rfl, h12⟩
      · rw [if_neg q2] at hX
        subst hX
        rw [if_neg (fun z => q2 ((sg_all _ alp.2.2).2.2.2.1 _ alt.2.2 z))]
        exact ⟨aI w 12, fun σ2 h => (by cases h), fun _ => by rw [pA_eta]⟩
    · rw [if_neg q1] at hX
      rw [if_neg q1, if_neg i10, mVarOf G R hp (by omega), cl_s]
      have hsv := hσ (hB B p - 10)
      rw [ld_n (by omega) (by omega), h12 _ (by omega)]
      unfold bX11_binds_31 bX11_binds_46
      by_cases q3 : σ (hB B p - 10) = 2000
      · rw [if_pos q3] at hX
        subst hX
        rw [if_pos (by rw [q3]; rfl), st_n (by omega) (by omega), ld_n (by omega) (by omega), aI_pA, if_pos rfl, upd_s, if_pos rfl]
        refine ⟨_, fun σ2 h => ⟨bo01 (Or.inr rfl), fun v hv => ?_⟩, fun h => (by cases h)⟩
        cases h
        by_cases e : v = hB B p - 10
        · rw [e, upd_s, fu_s, eN_n (by omega)]
        · rw [upd_n e, fu_n e]; exact h12 v hv
      · rw [if_neg q3] at hX
        rw [if_neg (eN_m1 (by omega)), ld_n (by omega) (by omega), h12 _ (by omega), eN_n (by omega)]
        by_cases q4 : σ (hB B p - 10) = t
        · rw [if_pos q4] at hX
          subst hX
          rw [if_pos (by rw [q4])]
          refine ⟨aI w 12, fun σ2 h => ?_, fun h => (by cases h)⟩
          cases h
          rw [pA_eta]
          exact ⟨bo01 (Or.inr rfl), h12⟩
        · rw [if_neg q4] at hX
          subst hX
          rw [if_neg (fun z => q4 ((nI_eq (by omega) (by omega)).mp z))]
          exact ⟨aI w 12, fun σ2 h => (by cases h), fun _ => by rw [pA_eta]; exact bo01 (Or.inl rfl)⟩
