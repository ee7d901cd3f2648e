/-! small terms -/
def gnd (B : Bk) (t : Nat) : Prop := ∀ v, v < 8 → ctB B t v = 0
theorem mask0 : ∀ a, a < 256 → (nI a = 0 ↔ (a.testBit 0 = false ∧ a.testBit 1 = false ∧ a.testBit 2 = false ∧ a.testBit 3 = false ∧ a.testBit 4 = false ∧ a.testBit 5 = false ∧ a.testBit 6 = false ∧ a.testBit 7 = false)) := by decide +kernel
theorem cVars {B : Bk} {w : Wd} (R : RB B w) {t : Nat} (ht : t < nB B) : aI w 19 t = 0 ↔ gnd B t := by
  obtain ⟨M, m1, m2, m3⟩ := R.2.2.2.2.1 t ht
  have z : ∀ v, v < 8 → (M.testBit v = false ↔ ctB B t v = 0) := fun v h => by
    rw [m3 v h, decide_eq_false_iff_not]; omega
  rw [m2, mask0 M m1, z 0 (by omega), z 1 (by omega), z 2 (by omega), z 3 (by omega), z 4 (by omega), z 5 (by omega), z 6 (by omega), z 7 (by omega)]
  constructor
  · rintro ⟨h0, h1, h2, h3, h4, h5, h6, h7⟩ v hv
    have : v = 0 ∨ v = 1 ∨ v = 2 ∨ v = 3 ∨ v = 4 ∨ v = 5 ∨ v = 6 ∨ v = 7 := by omega
    rcases this with q | q | q | q | q | q | q | q <;> rw [q] <;> assumption
  · intro h
    exact ⟨h 0 (by omega), h 1 (by omega), h 2 (by omega), h 3 (by omega), h 4 (by omega), h 5 (by omega), h 6 (by omega), h 7 (by omega)⟩
theorem capN_sm {x : Nat} (h : capN x ≤ 30) : capN x = x := by unfold capN at h ⊢; split at h <;> split <;> omega
theorem sz_eq {B : Bk} (G : GB B) {t : Nat} (ht : t < nB B) (hs : szB B t ≤ 30) : szB B t = 1 + two (npB B t) (szB B (aB B t)) (szB B (bB B t)) := by
  have h := G.2.2.2.2.2.2.1 t ht
  rw [h] at hs
  rw [h, capN_sm hs]
theorem sz_a {B : Bk} (G : GB B) {t : Nat} (ht : t < nB B) (hs : szB B t ≤ 30) (hn : 1 ≤ npB B t) : aB B t < nB B ∧ szB B (aB B t) + 1 ≤ szB B t := by
  have h := sz_eq G ht hs
  have hp := (G.np ht).2.2.1 hn
  unfold two at h
  rw [if_pos hn] at h
  exact ⟨by omega, by omega⟩
theorem sz_b {B : Bk} (G : GB B) {t : Nat} (ht : t < nB B) (hs : szB B t ≤ 30) (hn : 2 ≤ npB B t) : bB B t < nB B ∧ szB B (bB B t) + szB B (aB B t) + 1 ≤ szB B t := by
  have h := sz_eq G ht hs
  have hp := (G.np ht).2.2.2.1 hn
  unfold two at h
  rw [if_pos hn, if_pos (by omega)] at h
  exact ⟨by omega, by omega⟩
theorem ct_sm {B : Bk} (G : GB B) {v : Nat} (hv : v < 8) : ∀ k t, t < k → t < nB B → szB B t ≤ 30 → ctB B t v ≤ szB B t ∧ ctB B t v = (if hB B t = 10 + v then 1 else 0) + two (npB B t) (ctB B (aB B t) v) (ctB B (bB B t) v) := by
  intro k
  induction k with
  | zero => intro t h; omega
  | succ k ih =>
    intro t h ht hs
    have hc := mB_cap G ht hv
    have hz := sz_eq G ht hs
    have hle : (if hB B t = 10 + v then 1 else 0) + two (npB B t) (ctB B (aB B t) v) (ctB B (bB B t) v) ≤ szB B t := by
      rw [hz]
      unfold two
      by_cases h1 : 1 ≤ npB B t
      · have ia := ih (aB B t) (by have := (G.np ht).2.2.1 h1; omega) (sz_a G ht hs h1).1 (by have := (sz_a G ht hs h1).2; omega)
        have hne : ¬ hB B t = 10 + v := fun z => by
          have := (G.np ht).2.1 (by omega)
          omega
        rw [if_pos h1, if_pos h1, if_neg hne]
        by_cases h2 : 2 ≤ npB B t
        · have ib := ih (bB B t) (by have := (G.np ht).2.2.2.1 h2; omega) (sz_b G ht hs h2).1 (by have := (sz_b G ht hs h2).2; omega)
          rw [if_pos h2, if_pos h2]
          omega
        · rw [if_neg h2, if_neg h2]
          omega
      · have h2 : ¬ 2 ≤ npB B t := by omega
        rw [if_neg h1, if_neg h1, if_neg h2, if_neg h2]
        split <;> omega
    have hcap : ctB B t v = (if hB B t = 10 + v then 1 else 0) + two (npB B t) (ctB B (aB B t) v) (ctB B (bB B t) v) := by
      rw [hc]
      unfold capN
      rw [if_neg (by omega)]
    exact ⟨by rw [hcap]; exact hle, hcap⟩
theorem gnd_a {B : Bk} (G : GB B) {t : Nat} (ht : t < nB B) (h : gnd B t) : hB B t < 10 ∧ (1 ≤ npB B t → gnd B (aB B t)) ∧ (2 ≤ npB B t → gnd B (bB B t)) := by
  have hal := (G.a_le ht).2.2
  refine ⟨?_, fun hn v hv => ?_, fun hn v hv => ?_⟩
  · apply Decidable.byContradiction
    intro z
    have := h (hB B t - 10) (by omega)
    rw [mB_cap G ht (by omega), if_pos (by omega)] at this
    have := capN_0.mp this
    omega
  · have := h v hv
    rw [mB_cap G ht hv] at this
    have := capN_0.mp this
    unfold two at this
    rw [if_pos hn] at this
    omega
  · have := h v hv
    rw [mB_cap G ht hv] at this
    have := capN_0.mp this
    unfold two at this
    rw [if_pos hn] at this
    omega
/-- a term with a sign and variables has a part -/
theorem ngnd_np {B : Bk} (G : GB B) {t : Nat} (ht : t < nB B) (h : ¬ gnd B t) (hs : hB B t < 10) : 1 ≤ npB B t := by
  apply Decidable.byContradiction
  intro z
  apply h
  intro v hv
  rw [mB_cap G ht hv, if_neg (by omega)]
  unfold two
  rw [if_neg z, if_neg (by omega)]
  rfl
theorem cAddV {B : Bk} (G : GB B) {N : Nat} (hy : Int32) : ∀ k d t lev w, RB B w → t < nB B → szB B t ≤ k → lev + k ≤ 31 → k ≤ 30 → ∃ f, eX0_addVariables N (d + k + 1) w (nI t) hy (nI lev) = some (pA w 30 f) ∧ ∀ v, v < 8 → f v = aI w 30 v + hy * nI (ctB B t v) := by
  have g1 := G.1
  intro k
  induction k with
  | zero => intro d t lev w R ht hs; have := (G.sz_le ht).2.1; omega
  | succ k ih =>
    intro d t lev w R ht hs hl hk
    have key : eX0_addVariables N (d + (k + 1) + 1) w (nI t) hy (nI lev) = bX0_addVariables_0 N (d + k + 1) (eX0_addVariables N (d + k + 1)) w (nI t) hy (nI lev) := rfl
    rw [key]
    unfold bX0_addVariables_0 bX0_addVariables_18 bX0_addVariables_99
    rw [ld_n (by omega) (by omega)]
    have hcv := fun v hv => (ct_sm G (v := v) hv (t + 1) t (by omega) ht (by omega)).2
    by_cases q : gnd B t
    · rw [if_pos ((cVars R ht).mpr q)]
      refine ⟨aI w 30, by rw [pA_eta], fun v hv => ?_⟩
      rw [q v hv, show nI 0 = (0 : Int32) from rfl, Int32.mul_zero, Int32.add_zero]
    · rw [if_neg (fun z => q ((cVars R ht).mp z)), if_pos (by rw [show (30 : Int32) = nI 30 from rfl, nI_leI (by omega) (by omega)]; omega), cIsVar G R ht, cl_s]
      have hr := R.2.2.2.1 t ht
      have hal := G.a_le ht
      by_cases hv : hB B t < 10
      · rw [if_pos hv, if_pos i00]
        have hn1 := ngnd_np G ht q hv
        have ha := sz_a G ht (by omega) hn1
        rw [ld_n (by omega) (by omega), hr.2.1, eN_n (by omega), nI_1]
        obtain ⟨f, f1, f2⟩ := ih d (aB B t) (lev + 1) w R ha.1 (by omega) (by omega) (by omega)
        rw [f1, cv_s]
        have R2 : RB B (pA w 30 f) := R
        have hr2 := R2.2.2.2.1 t ht
        rw [ld_n (by omega) (by omega), hr2.2.2.1, ld_n (by omega) (by omega), hr2.2.2.1]
        by_cases hn2 : 2 ≤ npB B t
        · have hb := sz_b G ht (by omega) hn2
          rw [if_neg (eN_m1 (by omega)), eN_n (by omega)]
          obtain ⟨f3, f4, f5⟩ := ih d (bB B t) (lev + 1) (pA w 30 f) R2 hb.1 (by omega) (by omega) (by omega)
          rw [f4, cv_s]
          refine ⟨f3, by rw [pA_pA], fun v h8 => ?_⟩
          rw [f5 v h8, aI_pA, if_pos rfl, f2 v h8, hcv v h8, if_neg (by omega)]
          unfold two
          rw [if_pos hn1, if_pos hn2, Nat.zero_add, ← nI_add, Int32.mul_add, Int32.add_assoc]
        · rw [(G.np ht).2.2.2.2.2 hn2, if_pos eN_no]
          refine ⟨f, rfl, fun v h8 => ?_⟩
          rw [f2 v h8, hcv v h8, if_neg (by omega)]
          unfold two
          rw [if_pos hn1, if_neg hn2, Nat.zero_add, Nat.add_zero]
      · rw [if_neg hv, if_neg i10, ld_n (by omega) (by omega), hr.1, show (10 : Int32) = nI 10 from rfl, pk_sub (by omega), ld_n (by omega) (by omega), st_n (by omega) (by omega)]
        refine ⟨_, rfl, fun v h8 => ?_⟩
        have hn0 := (G.np ht).2.1 (by omega)
        have h2 : two (npB B t) (ctB B (aB B t) v) (ctB B (bB B t) v) = 0 := by unfold two; rw [if_neg (by omega), if_neg (by omega)]
        rw [hcv v h8, h2]
        by_cases e : v = hB B t - 10
        · rw [e, upd_s, if_pos (by omega)]
          show _ + hy = _ + hy * 1
          rw [Int32.mul_one]
        · rw [upd_n e, if_neg (by omega)]
          show _ = _ + hy * 0
          rw [Int32.mul_zero, Int32.add_zero]
def lev8 (B : Bk) (s t : Nat) : Prop := ∀ v, v < 8 → ctB B t v ≤ ctB B s v
theorem cHasL {N d : Nat} {w : Wd} {P : Nat → Prop} (hP : ∀ v, v < 8 → (0 ≤ aI w 30 v ↔ P v)) : ∀ n j, j ≤ 8 → 8 < n + j → ((∀ v, j ≤ v → v < 8 → P v) → fX0_hasVariablesOf_24 N d n w (nI j) = some (w, 1)) ∧ (¬ (∀ v, j ≤ v → v < 8 → P v) → fX0_hasVariablesOf_24 N d n w (nI j) = some (w, 0)) := by
  intro n
  induction n with
  | zero => intro j h1 h2; omega
  | succ n ih =>
    intro j h1 h2
    have key : fX0_hasVariablesOf_24 N d (n + 1) w (nI j) = bX0_hasVariablesOf_24 N d (fX0_hasVariablesOf_24 N d n) w (nI j) := rfl
    rw [key]
    unfold bX0_hasVariablesOf_24
    simp only [c_nm]
    by_cases e : 8 ≤ j
    · rw [if_pos (by rw [show (8 : Int32) = nI 8 from rfl, nI_leI (by omega) (by omega)]; exact e)]
      exact ⟨fun _ => rfl, fun h => absurd (fun v h1 h2 => by omega) h⟩
    · rw [if_neg (fun z => e (by rw [show (8 : Int32) = nI 8 from rfl, nI_leI (by omega) (by omega)] at z; exact z)), ld_n (by omega) (by omega)]
      obtain ⟨i1, i2⟩ := ih (j + 1) (by omega) (by omega)
      by_cases q : P j
      · rw [if_pos ((hP j (by omega)).mpr q), nI_1]
        refine ⟨fun h => i1 (fun v h1 h2 => h v (by omega) h2), fun h => i2 (fun h3 => h (fun v h4 h5 => ?_))⟩
        by_cases ev : v = j
        · rw [ev]; exact q
        · exact h3 v (by omega) h5
      · rw [if_neg (fun z => q ((hP j (by omega)).mp z))]
        exact ⟨fun h => absurd (h j (by omega) (by omega)) q, fun _ => rfl⟩
theorem cHas {B : Bk} (G : GB B) {N d s t : Nat} {w : Wd} (R : RB B w) (hN : 2000000 ≤ N) (hs : s < nB B) (ht : t < nB B) (zs : szB B s ≤ 30) (zt : szB B t ≤ 30) :
    ∃ f, (lev8 B s t → eX0_hasVariablesOf N (d + 32) w (nI s) (nI t) = some (pA w 30 f, 1)) ∧ (¬ lev8 B s t → eX0_hasVariablesOf N (d + 32) w (nI s) (nI t) = some (pA w 30 f, 0)) := by
  have key : eX0_hasVariablesOf N (d + 32) w (nI s) (nI t) = bX0_hasVariablesOf_0 N (d + 31) w (nI s) (nI t) := rfl
  rw [key]
  unfold bX0_hasVariablesOf_0
  have cs := fun v hv => (ct_sm G (v := v) hv (s + 1) s (by omega) hs zs).1
  have ct := fun v hv => (ct_sm G (v := v) hv (t + 1) t (by omega) ht zt).1
  rw [fill30 hN, cv_s]
  have R1 : RB B (pA w 30 (fil (aI w 30) 0 8 0)) := R
  obtain ⟨f, f1, f2⟩ := cAddV G (N := N) 1 30 d s 1 _ R1 hs zs (by omega) (by omega)
  have f3 : eX0_addVariables N (d + 31) (pA w 30 (fil (aI w 30) 0 8 0)) (nI s) 1 1 = _ := f1
  rw [f3, cv_s, pA_pA]
  have R2 : RB B (pA w 30 f) := R
  obtain ⟨g, g1, g2⟩ := cAddV G (N := N) (-1) 30 d t 1 _ R2 ht zt (by omega) (by omega)
  have g3 : eX0_addVariables N (d + 31) (pA w 30 f) (nI t) (-1) 1 = _ := g1
  rw [g3, cv_s, pA_pA]
  have hP : ∀ v, v < 8 → (0 ≤ aI (pA w 30 g) 30 v ↔ ctB B t v ≤ ctB B s v) := fun v hv => by
    have c1 := cs v hv
    have c2 := ct v hv
    rw [aI_pA, if_pos rfl, g2 v hv, aI_pA, if_pos rfl, f2 v hv, aI_pA, if_pos rfl, fil_in (by omega) hv]
    have : (0 : Int32) + 1 * nI (ctB B s v) + -1 * nI (ctB B t v) = nI (ctB B s v) - nI (ctB B t v) := by
      rw [Int32.zero_add, Int32.one_mul, Int32.neg_mul, Int32.one_mul, Int32.sub_eq_add_neg]
    rw [this, Int32.le_iff_toInt_le, pk_sub_toInt (by omega) (by omega)]
    show (0 : Int) ≤ _ ↔ _
    omega
  obtain ⟨h1, h2⟩ := cHasL (N := N) (d := d + 31) hP N 0 (by omega) (by omega)
  exact ⟨g, fun h => h1 (fun v _ hv => h v hv), fun h => h2 (fun h3 => h (fun v hv => h3 v (Nat.zero_le _) hv))⟩
