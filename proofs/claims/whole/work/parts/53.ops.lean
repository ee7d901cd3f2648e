/-! rule -/
theorem mask_sub {a b : Nat} (ha : a < 256) (hb : b < 256) : nI a &&& (nI b ^^^ (-1)) = 0 ↔ ∀ v, v < 8 → a.testBit v = true → b.testBit v = true := by
  have e1 : (nI a &&& (nI b ^^^ (-1))).toBitVec = BitVec.ofNat 32 a &&& ~~~ (BitVec.ofNat 32 b) := by
    show BitVec.ofNat 32 a &&& (BitVec.ofNat 32 b ^^^ (-1#32)) = _
    congr 1
    apply BitVec.eq_of_getLsbD_eq
    intro i hi
    have : (-1#32 : BitVec 32) = BitVec.allOnes 32 := by decide
    rw [this, BitVec.xor_allOnes]
  have e2 : (nI a &&& (nI b ^^^ (-1)) = 0) ↔ BitVec.ofNat 32 a &&& ~~~ (BitVec.ofNat 32 b) = 0#32 := by
    rw [← e1]
    exact ⟨fun h => by rw [h]; rfl, fun h => Int32.toBitVec_inj.mp (by rw [h]; rfl)⟩
  rw [e2]
  constructor
  · intro h v hv hx
    have := congrArg (fun z => BitVec.getLsbD z v) h
    simp only [BitVec.getLsbD_and, BitVec.getLsbD_not, BitVec.getLsbD_ofNat, BitVec.getLsbD_zero] at this
    have hv2 : v < 32 := by omega
    simp only [hv2, decide_true, Bool.true_and, hx] at this
    simpa using this
  · intro h
    apply BitVec.eq_of_getLsbD_eq
    intro i hi
    simp only [BitVec.getLsbD_and, BitVec.getLsbD_not, BitVec.getLsbD_ofNat, BitVec.getLsbD_zero, hi, decide_true, Bool.true_and, Nat.zero_testBit]
    by_cases hi8 : i < 8
    · cases q : a.testBit i with
      | false => rfl
      | true => rw [h i hi8 q]; rfl
    · have : a.testBit i = false := Nat.testBit_lt_two_pow (Nat.lt_of_lt_of_le ha (Nat.pow_le_pow_right (n := 2) (by omega) (show 8 ≤ i by omega)))
      rw [this]; rfl
theorem mask_hi : ∀ a, a < 256 → (nI a &&& (-16) = 0 ↔ (a.testBit 4 = false ∧ a.testBit 5 = false ∧ a.testBit 6 = false ∧ a.testBit 7 = false)) := by decide +kernel
def MR (B : Bk) (l r : Nat) : Prop := hB B l < 10 ∧ (∀ v, 4 ≤ v → v < 8 → ctB B l v = 0) ∧ (∀ v, v < 8 → ctB B l v = 0 → ctB B r v = 0) ∧ szB B l ≤ 30 ∧ szB B r ≤ 30
theorem GB.sz_le {B : Bk} (G : GB B) {t : Nat} (ht : t < nB B) : szB B t ≤ 1000000000000000 ∧ 1 ≤ szB B t ∧ wgB B t ≤ 1000000000000000 ∧ ∀ v, v < 8 → ctB B t v ≤ 1000000000000000 := by
  refine ⟨?_, ?_, ?_, fun v hv => ?_⟩
  · rw [G.2.2.2.2.2.2.1 t ht]; exact capN_le _
  · rw [G.2.2.2.2.2.2.1 t ht]; exact capN_pos (by omega)
  · rw [G.2.2.2.2.2.2.2.1 t ht]; exact capN_le _
  · rw [G.2.2.2.2.2.2.2.2 t ht v hv]; exact capN_le _
theorem cIsSmall {N d t : Nat} {B : Bk} {w : Wd} (G : GB B) (R : RB B w) (ht : t < nB B) : eX8_isSmall N (d + 1) w (nI t) = some (w, if szB B t ≤ 30 then 1 else 0) := by
  show bX8_isSmall_0 N d w (nI t) = _
  have g1 := G.1
  have hs := G.sz_le ht
  unfold bX8_isSmall_0 bX8_isSmall_18 c_bo
  rw [ll_n (by omega) (by omega), (R.2.2.2.1 t ht).2.2.2.1, show (30 : Int64) = lN 30 from rfl]
  by_cases q : szB B t ≤ 30
  · rw [if_neg (fun z => by rw [lc_gt (by omega) (by omega)] at z; omega), if_pos q]; rfl
  · rw [if_pos (by rw [lc_gt (by omega) (by omega)]; omega), if_neg q]; rfl
theorem cMakesRule {N d l r : Nat} {B : Bk} {w : Wd} (G : GB B) (R : RB B w) (hl : l < nB B) (hr : r < nB B) :
    (MR B l r → eX8_makesRule N (d + 2) w (nI l) (nI r) = some (w, 1)) ∧ (¬ MR B l r → eX8_makesRule N (d + 2) w (nI l) (nI r) = some (w, 0)) := by
  have key : eX8_makesRule N (d + 2) w (nI l) (nI r) = bX8_makesRule_0 N (d + 1) w (nI l) (nI r) := rfl
  have g1 := G.1
  obtain ⟨Ml, m1, m2, m3⟩ := R.2.2.2.2.1 l hl
  obtain ⟨Mr, r1, r2, r3⟩ := R.2.2.2.2.1 r hr
  have hi := mask_hi Ml m1
  have hs := mask_sub r1 m1
  have z : ∀ t v M, (M : Nat).testBit v = decide (0 < ctB B t v) → (M.testBit v = false ↔ ctB B t v = 0) := fun t v M h => by
    rw [h, decide_eq_false_iff_not]; omega
  have hi2 : nI Ml &&& (-16) = 0 ↔ ∀ v, 4 ≤ v → v < 8 → ctB B l v = 0 := by
    rw [hi, z l 4 Ml (m3 4 (by omega)), z l 5 Ml (m3 5 (by omega)), z l 6 Ml (m3 6 (by omega)), z l 7 Ml (m3 7 (by omega))]
    constructor
    · rintro ⟨a, b, c, e⟩ v h4 h8
      have : v = 4 ∨ v = 5 ∨ v = 6 ∨ v = 7 := by omega
      rcases this with q | q | q | q <;> rw [q] <;> assumption
    · intro h
      exact ⟨h 4 (by omega) (by omega), h 5 (by omega) (by omega), h 6 (by omega) (by omega), h 7 (by omega) (by omega)⟩
  have hs2 : nI Mr &&& (nI Ml ^^^ (-1)) = 0 ↔ ∀ v, v < 8 → ctB B l v = 0 → ctB B r v = 0 := by
    rw [hs]
    constructor
    · intro h v hv h0
      apply Decidable.byContradiction
      intro hc
      have h1 : Mr.testBit v = true := by rw [r3 v hv, decide_eq_true_iff]; omega
      have h2 := h v hv h1
      rw [m3 v hv, decide_eq_true_iff] at h2
      omega
    · intro h v hv h0
      rw [r3 v hv, decide_eq_true_iff] at h0
      rw [m3 v hv, decide_eq_true_iff]
      apply Decidable.byContradiction
      intro hc
      have := h v hv (by omega)
      omega
  rw [key]
  unfold bX8_makesRule_0 bX8_makesRule_60 bX8_makesRule_61 c_bo
  simp only [c_nm]
  rw [cIsVar G R hl, cl_s, ld_n (by omega) (by omega), m2, ld_n (by omega) (by omega), r2, ld_n (by omega) (by omega), m2, cIsSmall G R hl, cl_s, cIsSmall G R hr, cl_s]
  by_cases q1 : hB B l < 10
  · by_cases q2 : nI Ml &&& (-16) = 0
    · by_cases q3 : nI Mr &&& (nI Ml ^^^ (-1)) = 0
      · by_cases q4 : szB B l ≤ 30
        · by_cases q5 : szB B r ≤ 30
          · simp only [q1, q2, q3, q4, q5, i10, if_true, if_false, true_or, or_true]
            exact ⟨fun _ => trivial, fun h => absurd ⟨q1, hi2.mp q2, hs2.mp q3, q4, q5⟩ h⟩
          · simp only [q1, q2, q3, q4, q5, i10, if_true, if_false, true_or, or_true]
            exact ⟨fun h => absurd h.2.2.2.2 q5, fun _ => trivial⟩
        · simp only [q1, q2, q3, q4, i10, if_true, if_false, true_or, or_true]
          exact ⟨fun h => absurd h.2.2.2.1 q4, fun _ => trivial⟩
      · simp only [q1, q2, q3, i10, if_true, if_false, true_or, or_true]
        exact ⟨fun h => absurd (hs2.mpr h.2.2.1) q3, fun _ => trivial⟩
    · simp only [q1, q2, i10, if_true, if_false, true_or, or_true]
      exact ⟨fun h => absurd (hi2.mpr h.2.1) q2, fun _ => trivial⟩
  · simp only [q1, i10, if_true, if_false, true_or, or_true]
    exact ⟨fun h => absurd h.1 q1, fun _ => trivial⟩
def PvR (B : Bk) (l r v : Nat) : Prop := (4 ≤ v → ctB B l v = 0) ∧ (ctB B l v = 0 → ctB B r v = 0)
def endR (w : Wd) (x1 x2 : Int32) : Option (Wd × Int32) :=
  if (sI w 3) = 16 then some (w, -4) else
    c_st w 9 16 (sI w 3) x1 fun w8 => c_st w8 10 16 (sI w8 3) x2 fun w9 => c_sz w9 11 16 (sI w9 3) 1 fun w10 => c_pi w10 3 ((sI w10 3) + 1) fun w11 => some (w11, (sI w11 3) - 1)
theorem mRuleL {N d l r : Nat} {B : Bk} {w : Wd} (G : GB B) (R : RM B w) (hl : l < nB B) (hr : r < nB B) : ∀ n j (g : Prop) (x : Int32), j ≤ 8 → 8 < n + j → (x = 0 ∧ ¬ g ∨ x = 1 ∧ g) →
    ((g ∧ ∀ v, j ≤ v → v < 8 → PvR B l r v) → fX11_rule_67 N d n w (nI l) (nI r) x (nI j) = endR w (nI l) (nI r)) ∧
    (¬ (g ∧ ∀ v, j ≤ v → v < 8 → PvR B l r v) → fX11_rule_67 N d n w (nI l) (nI r) x (nI j) = some (w, -3)) := by
  have g1 := G.1
  intro n
  induction n with
  | zero => intro j g x h1 h2; omega
  | succ n ih =>
    intro j g x h1 h2 hx
    have key : fX11_rule_67 N d (n + 1) w (nI l) (nI r) x (nI j) = bX11_rule_67 N d (fX11_rule_67 N d n) w (nI l) (nI r) x (nI j) := rfl
    rw [key]
    unfold bX11_rule_67
    by_cases e : 8 ≤ j
    · rw [if_pos (by rw [show (8 : Int32) = nI 8 from rfl, nI_leI (by omega) (by omega)]; exact e)]
      rcases hx with ⟨hx, hg⟩ | ⟨hx, hg⟩
      · rw [if_pos hx]
        exact ⟨fun h => absurd h.1 hg, fun _ => rfl⟩
      · rw [if_neg (by rw [hx]; decide)]
        exact ⟨fun _ => rfl, fun h => absurd ⟨hg, fun v h1 h2 => by omega⟩ h⟩
    · rw [if_neg (fun z => e (by rw [show (8 : Int32) = nI 8 from rfl, nI_leI (by omega) (by omega)] at z; exact z))]
      have cl := (G.sz_le hl).2.2.2 j (by omega)
      have cr := (G.sz_le hr).2.2.2 j (by omega)
      have el : ∀ K : Int64 → Option (Wd × Int32), c_ll w 8 8000 (8 * nI l + nI j) K = K (lN (ctB B l j)) := fun K => by
        rw [show (8 : Int32) = nI 8 from rfl, pk_mul, nI_add, ll_n (by omega) (by omega), R.2.2.2.2.2 l hl j (by omega)]
      have er : ∀ K : Int64 → Option (Wd × Int32), c_ll w 8 8000 (8 * nI r + nI j) K = K (lN (ctB B r j)) := fun K => by
        rw [show (8 : Int32) = nI 8 from rfl, pk_mul, nI_add, ll_n (by omega) (by omega), R.2.2.2.2.2 r hr j (by omega)]
      have e4 : nI j < 4 ↔ j < 4 := by rw [show (4 : Int32) = nI 4 from rfl, nI_ltI (by omega) (by omega)]
      have zl : lg_cmp (lN (ctB B l j)) 0 ≤ 0 ↔ ctB B l j = 0 := by rw [show (0 : Int64) = lN 0 from rfl, lc_le (by omega) (by omega)]; omega
      have zr : lg_cmp (lN (ctB B r j)) 0 = 0 ↔ ctB B r j = 0 := by rw [lg_cmp_eq, show (0 : Int64) = lN 0 from rfl, pk_lEQ (by omega) (by omega)]
      have i1 := ih (j + 1) (g ∧ PvR B l r j) 1 (by omega) (by omega)
      have i0 := ih (j + 1) (g ∧ PvR B l r j) 0 (by omega) (by omega)
      have eqv : ((g ∧ PvR B l r j) ∧ ∀ v, j + 1 ≤ v → v < 8 → PvR B l r v) ↔ (g ∧ ∀ v, j ≤ v → v < 8 → PvR B l r v) := by
        constructor
        · rintro ⟨⟨h1, h2⟩, h3⟩
          refine ⟨h1, fun v h4 h5 => ?_⟩
          by_cases ev : v = j
          · rw [ev]; exact h2
          · exact h3 v (by omega) h5
        · rintro ⟨h1, h2⟩
          exact ⟨⟨h1, h2 j (by omega) (by omega)⟩, fun v h4 h5 => h2 v (by omega) h5⟩
      rw [eqv] at i1 i0
      unfold bX11_rule_96 bX11_rule_113 bX11_rule_135 bX11_rule_139 bX11_rule_140
      simp only [c_nm, el, er, nI_1]
      rcases hx with ⟨hx, hg⟩ | ⟨hx, hg⟩
      · have := i0 (Or.inl ⟨rfl, fun h => hg h.1⟩)
        simp only [hx, if_true, ite_self]
        exact this
      · have hx2 : ¬ x = 0 := by rw [hx]; decide
        by_cases q1 : ctB B l j = 0
        · simp only [zl.mpr q1, if_true, hx2, if_false, ite_self]
          by_cases q2 : ctB B r j = 0
          · simp only [zr.mpr q2, if_true]
            exact i1 (Or.inr ⟨rfl, hg, fun _ => q1, fun _ => q2⟩)
          · have q3 : ¬ lg_cmp (lN (ctB B r j)) 0 = 0 := fun h => q2 (zr.mp h)
            simp only [q3, if_false]
            exact i0 (Or.inl ⟨rfl, fun h => q2 (h.2.2 q1)⟩)
        · have q3 : ¬ lg_cmp (lN (ctB B l j)) 0 ≤ 0 := fun h => q1 (zl.mp h)
          simp only [q3, if_false, hx2, i10, e4]
          by_cases q4 : j < 4
          · simp only [q4, if_true]
            exact i1 (Or.inr ⟨rfl, hg, fun h => by omega, fun h => absurd h q1⟩)
          · simp only [q4, if_false]
            exact i0 (Or.inl ⟨rfl, fun h => q1 (h.2.1 (by omega))⟩)
theorem MR_iff {B : Bk} {l r : Nat} : MR B l r ↔ ((hB B l < 10 ∧ szB B l ≤ 30 ∧ szB B r ≤ 30) ∧ ∀ v, 0 ≤ v → v < 8 → PvR B l r v) := by
  constructor
  · rintro ⟨h1, h2, h3, h4, h5⟩
    exact ⟨⟨h1, h4, h5⟩, fun v _ hv => ⟨fun h => h2 v h hv, h3 v hv⟩⟩
  · rintro ⟨⟨h1, h4, h5⟩, h6⟩
    exact ⟨h1, fun v h hv => (h6 v (Nat.zero_le _) hv).1 h, fun v hv => (h6 v (Nat.zero_le _) hv).2, h4, h5⟩
theorem op_rule {N d : Nat} (hN : 2000000 ≤ N) : Op_rule N (d + 6) II := by
  intro t wc wm x y _ h
  obtain ⟨B, R, G, gr, rb, rm, rc, rr, ru, rp, rt, rs⟩ := id h
  have key : eX10_rule N (d + 6) wc x y = bX10_rule_0 N (d + 5) wc x y := rfl
  have key2 : eX11_rule N (d + 6) wm x y = bX11_rule_0 N (d + 5) wm x y := rfl
  have g1 := G.1
  have rm2 : RM B (pI wm 0 0) := rm
  rw [key, key2]
  unfold bX10_rule_0 bX11_rule_0 bX10_rule_16 bX11_rule_21 bX11_rule_62 bX11_rule_63
  simp only [c_pi]
  rw [cIsTerm rb, cl_s, cIsTerm rb, cl_s, mIsTerm G rm2, cl_s, mIsTerm G rm2, cl_s]
  rcases iw_cases (n := nB B) (by omega) x with ⟨l, hl, el, ql⟩ | ⟨_, q⟩
  · rcases iw_cases (n := nB B) (by omega) y with ⟨r, hr, er, qr⟩ | ⟨_, q⟩
    · simp only [ql, qr, i10, if_false]
      rw [el, er, mIsVar G rm2 hl, cl_s, ll_n (by omega) (by omega), (rm2.2.2.2.2.1 l hl).2.2.2.1, ll_n (by omega) (by omega), (rm2.2.2.2.2.1 r hr).2.2.2.1]
      have sl := G.sz_le hl
      have sr := G.sz_le hr
      have zl : 0 < lg_cmp (lN (szB B l)) 30 ↔ ¬ szB B l ≤ 30 := by rw [show (30 : Int64) = lN 30 from rfl, lc_gt (by omega) (by omega)]; omega
      have zr : 0 < lg_cmp (lN (szB B r)) 30 ↔ ¬ szB B r ≤ 30 := by rw [show (30 : Int64) = lN 30 from rfl, lc_gt (by omega) (by omega)]; omega
      have em : ∀ X, X = (if (if hB B l < 10 then (0 : Int32) else 1) = 0 then (if 0 < lg_cmp (lN (szB B l)) 30 then fX11_rule_67 N (d + 5) N (pI wm 0 0) (nI l) (nI r) 0 0 else if 0 < lg_cmp (lN (szB B r)) 30 then fX11_rule_67 N (d + 5) N (pI wm 0 0) (nI l) (nI r) 0 0 else fX11_rule_67 N (d + 5) N (pI wm 0 0) (nI l) (nI r) 1 0) else fX11_rule_67 N (d + 5) N (pI wm 0 0) (nI l) (nI r) 0 0) →
          (MR B l r → X = endR (pI wm 0 0) (nI l) (nI r)) ∧ (¬ MR B l r → X = some (pI wm 0 0, -3)) := by
        intro X hX
        have i1 := mRuleL (N := N) (d := d + 5) G rm2 hl hr N 0 (hB B l < 10 ∧ szB B l ≤ 30 ∧ szB B r ≤ 30) 1 (by omega) (by omega)
        have i0 := mRuleL (N := N) (d := d + 5) G rm2 hl hr N 0 (hB B l < 10 ∧ szB B l ≤ 30 ∧ szB B r ≤ 30) 0 (by omega) (by omega)
        rw [← MR_iff] at i1 i0
        rw [hX]
        simp only [zl, zr]
        by_cases q1 : hB B l < 10
        · by_cases q2 : szB B l ≤ 30
          · by_cases q3 : szB B r ≤ 30
            · simp only [q1, q2, q3, if_true, not_true_eq_false, if_false]
              exact i1 (Or.inr ⟨rfl, q1, q2, q3⟩)
            · simp only [q1, q2, q3, if_true, not_true_eq_false, not_false_eq_true, if_false]
              exact i0 (Or.inl ⟨rfl, fun h => q3 h.2.2⟩)
          · simp only [q1, q2, if_true, not_false_eq_true]
            exact i0 (Or.inl ⟨rfl, fun h => q2 h.2.1⟩)
        · simp only [q1, if_false, i10]
          exact i0 (Or.inl ⟨rfl, fun h => q1 h.1⟩)
      obtain ⟨em1, em2⟩ := em _ rfl
      obtain ⟨cm1, cm2⟩ := cMakesRule (N := N) (d := d + 3) G rb hl hr
      by_cases hm : MR B l r
      · rw [em1 hm, cm1 hm, cl_s, if_neg i10]
        have key3 : eX4_add N (d + 5) wc (nI l) (nI r) = bX4_add_0 N (d + 4) wc (nI l) (nI r) := rfl
        rw [key3]
        unfold bX4_add_0 endR
        simp only [c_pi]
        have gr1 := gr.1
        have r3 : sI (pI wm 0 0) 3 = nI R.1 := rr.1
        rw [rc.1, r3]
        by_cases q5 : R.1 = 16
        · rw [q5, if_neg (by decide), if_pos (by decide), cl_s]
          exact two_th rfl rfl h
        rw [if_pos (show nI R.1 < (16 : Int32) by rw [show (16 : Int32) = nI 16 from rfl, nI_ltI (by omega) (by omega)]; omega), if_neg (show ¬ nI R.1 = (16 : Int32) from fun z => q5 ((nI_eq (b := 16) (by omega) (by omega)).mp z))]
        rw [st_n (by omega) (by omega), st_n (by omega) (by omega)]
        have z1 : ∀ f, sI (pA wc 23 f) 2 = nI R.1 := fun f => rc.1
        have z2 : ∀ f, sI (pA (pI wm 0 0) 9 f) 3 = nI R.1 := fun f => rr.1
        rw [z1, z2, st_n (by omega) (by omega), st_n (by omega) (by omega)]
        have z3 : ∀ f g, sI (pA (pA wc 23 f) 24 g) 2 = nI R.1 := fun f g => rc.1
        have z4 : ∀ f g, sI (pA (pA (pI wm 0 0) 9 f) 10 g) 3 = nI R.1 := fun f g => rr.1
        rw [z3, z4, sz_n (by omega) (by omega), sz_n (by omega) (by omega)]
        have z5 : ∀ f g k, sI (pA (pA (pA wc 23 f) 24 g) 25 k) 2 = nI R.1 := fun f g k => rc.1
        have z6 : ∀ f g k, sI (pA (pA (pA (pI wm 0 0) 9 f) 10 g) 11 k) 3 = nI R.1 := fun f g k => rr.1
        rw [z5, z6, nI_1, cl_s]
        refine ⟨_, _, _, rfl, rfl, B, (R.1 + 1, fu R.2.1 R.1 l, fu R.2.2.1 R.1 r, fu R.2.2.2 R.1 true), G, ⟨by show R.1 + 1 ≤ 16; omega, fun k hk => ?_⟩, rb, rm, ⟨rfl, fun k hk => ?_⟩, ⟨rfl, fun k hk => ?_⟩, ru, rp, rt, rs.up⟩
        · have hk2 : k < R.1 + 1 := hk
          show fu R.2.1 R.1 l k < nB B ∧ fu R.2.2.1 R.1 r k < nB B ∧ hB B (fu R.2.1 R.1 l k) < 10 ∧ szB B (fu R.2.1 R.1 l k) ≤ 30 ∧ szB B (fu R.2.2.1 R.1 r k) ≤ 30 ∧ (∀ v, 4 ≤ v → v < 8 → ctB B (fu R.2.1 R.1 l k) v = 0) ∧ (∀ v, v < 8 → ctB B (fu R.2.1 R.1 l k) v = 0 → ctB B (fu R.2.2.1 R.1 r k) v = 0)
          by_cases ek : k = R.1
          · rw [ek, fu_s, fu_s]
            exact ⟨hl, hr, hm.1, hm.2.2.2.1, hm.2.2.2.2, hm.2.1, hm.2.2.1⟩
          · rw [fu_n ek, fu_n ek]
            exact gr.2 k (by omega)
        · have hk2 : k < R.1 + 1 := hk
          show upd (aI wc 23) R.1 (nI l) k = nI (fu R.2.1 R.1 l k) ∧ upd (aI wc 24) R.1 (nI r) k = nI (fu R.2.2.1 R.1 r k) ∧ upd (aI wc 25) R.1 (vp_nar .boolean 1) k = b2 (fu R.2.2.2 R.1 true k)
          by_cases ek : k = R.1
          · rw [ek, upd_s, upd_s, upd_s, fu_s, fu_s, fu_s]
            exact ⟨rfl, rfl, rfl⟩
          · rw [upd_n ek, upd_n ek, upd_n ek, fu_n ek, fu_n ek, fu_n ek]
            exact rc.2 k (by omega)
        · have hk2 : k < R.1 + 1 := hk
          show upd (aI wm 9) R.1 (nI l) k = nI (fu R.2.1 R.1 l k) ∧ upd (aI wm 10) R.1 (nI r) k = nI (fu R.2.2.1 R.1 r k) ∧ upd (aI wm 11) R.1 (vp_nar .boolean 1) k = b2 (fu R.2.2.2 R.1 true k)
          by_cases ek : k = R.1
          · rw [ek, upd_s, upd_s, upd_s, fu_s, fu_s, fu_s]
            exact ⟨rfl, rfl, rfl⟩
          · rw [upd_n ek, upd_n ek, upd_n ek, fu_n ek, fu_n ek, fu_n ek]
            exact rr.2 k (by omega)
      · rw [em2 hm, cm2 hm, cl_s, if_pos i00]
        exact two_th rfl rfl h
    · refine two_th (r := -2) ?_ ?_ h
      · simp only [ql, q, i10, if_true, if_false]
      · simp only [ql, q, i10, if_true, if_false]
  · refine two_th (r := -2) ?_ ?_ h
    · simp only [q, if_true]
    · simp only [q, if_true]
