/-! the reference walks along bindings -/
abbrev wkS : Nat → Bool := fun k => k == 10 || k == 11
abbrev noA : Nat → Bool := fun _ => false
def Rb (β : Be) (w : Wd) : Prop := ∀ v, v < 8 → aI w 19 v = eN (β v).1 ∧ ((β v).1 ≠ 2000 → aI w 20 v = nI (β v).2)
theorem Rb.k {S A : Nat → Bool} {β : Be} {w w2 : Wd} (h : Rb β w) (f : Fr S A w w2) (a1 : A 19 = false := by rfl) (a2 : A 20 = false := by rfl) : Rb β w2 := by
  unfold Rb
  rw [(f.2 19 a1).1, (f.2 20 a2).1]
  exact h
/-- not a variable, or one that is not bound -/
def Wkd (B : Bk) (β : Be) (a am : Nat) : Prop := VT B a am ∧ (10 ≤ hB B a → (β (hB B a - 10 + am)).1 = 2000)
theorem mVarOfO {N d : Nat} {B : Bk} {w : Wd} {t : Nat} (G : GB B) (R : RM B (pI w 4 0)) (ht : t < nB B) (hv : 10 ≤ hB B t) : eX11_variableOf N (d + 1) w (nI t) = some (w, nI (hB B t - 10)) := by
  show bX11_variableOf_0 N d w (nI t) = _
  have g1 := G.1
  have h3 : aI w 3 t = sg (hB B t) := (R.2.2.2.2.1 t ht).1
  unfold bX11_variableOf_0
  rw [ld_n (by omega) (by omega), h3, (sg_all _ (G.a_le ht).2.2).2.2.1 hv]
theorem mWalkL {B : Bk} (G : GB B) {N d : Nat} {β : Be} {r : Nat → Nat} (h1 : ∀ v, v < 8 → (β v).1 = 2000 ∨ VT B (β v).1 (β v).2) (h2 : ∀ v, v < 8 → (β v).1 ≠ 2000 → ∀ u, u < 8 → 0 < ctB B (β v).1 u → r (u + (β v).2) < r v) : ∀ k n w a am, RM B (pI w 4 0) → Rb β w → sI w 10 = nI a → sI w 11 = nI am → VT B a am → (10 ≤ hB B a → r (hB B a - 10 + am) < k) → k < n →
    ∃ w2 b bm, fX11_walk_10 N (d + 1) n w = some w2 ∧ Fr wkS noA w w2 ∧ sI w2 10 = nI b ∧ sI w2 11 = nI bm ∧ Wkd B β b bm ∧ (∀ ρ, sat B β ρ → tv B ρ am a = tv B ρ bm b) ∧ (hB B a < 10 → b = a ∧ bm = am) := by
  have g1 := G.1
  intro k
  induction k with
  | zero =>
    intro n w a am rm hb h10 h11 hvt hr hn
    obtain ⟨n, rfl⟩ : ∃ m, n = m + 1 := ⟨n - 1, by omega⟩
    have hs : hB B a < 10 := by
      apply Decidable.byContradiction
      intro z
      have := hr (by omega)
      omega
    show ∃ w2 b bm, bX11_walk_10 N (d + 1) (fX11_walk_10 N (d + 1) n) w = some w2 ∧ _
    unfold bX11_walk_10 bX11_walk_80
    rw [h10, mIsVarO G rm hvt.1, cl_s, if_pos hs, if_pos i00]
    exact ⟨w, a, am, rfl, Fr.rf w, h10, h11, ⟨hvt, fun z => by omega⟩, fun _ _ => rfl, fun _ => ⟨rfl, rfl⟩⟩
  | succ k ih =>
    intro n w a am rm hb h10 h11 hvt hr hn
    obtain ⟨n, rfl⟩ : ∃ m, n = m + 1 := ⟨n - 1, by omega⟩
    show ∃ w2 b bm, bX11_walk_10 N (d + 1) (fX11_walk_10 N (d + 1) n) w = some w2 ∧ _
    unfold bX11_walk_10 bX11_walk_80
    simp only [c_nm, c_pi]
    rw [h10, mIsVarO G rm hvt.1, cl_s]
    by_cases hs : hB B a < 10
    · rw [if_pos hs, if_pos i00]
      exact ⟨w, a, am, rfl, Fr.rf w, h10, h11, ⟨hvt, fun z => by omega⟩, fun _ _ => rfl, fun _ => ⟨rfl, rfl⟩⟩
    · have hp := (hvt.pa G).2.2 (by omega)
      have ix : nI (hB B a - 10) + nI am = nI (hB B a - 10 + am) := nI_add _ _
      have hbv := hb _ hp.2
      rw [if_neg hs, if_neg i10, h10, mVarOfO G rm hvt.1 (by omega), cl_s, h11, ix, ld_n (by omega) (by omega), hbv.1]
      by_cases q : (β (hB B a - 10 + am)).1 = 2000
      · rw [if_pos (by rw [q]; rfl)]
        exact ⟨w, a, am, rfl, Fr.rf w, h10, h11, ⟨hvt, fun _ => q⟩, fun _ _ => rfl, fun z => absurd z hs⟩
      · have hvt2 := (h1 _ hp.2).resolve_left q
        have lt2 : (β (hB B a - 10 + am)).1 < 1000 := by have := hvt2.1; omega
        have ai20 : ∀ x, aI (pI w 10 x) 20 = aI w 20 := fun x => rfl
        rw [if_neg (eN_m1 (by omega)), h10, mVarOfO G rm hvt.1 (by omega), cl_s, h11, ix, ld_n (by omega) (by omega), hbv.1, ld_n (by omega) (by omega), ai20, hbv.2 q, eN_n (by omega)]
        have f1 : Fr wkS noA w (pI (pI w 10 (nI (β (hB B a - 10 + am)).1)) 11 (nI (β (hB B a - 10 + am)).2)) := ((Fr.rf w).pi rfl).pi rfl
        obtain ⟨w2, b, bm, r1, r2, r3, r4, r5, r6, r7⟩ := ih n (pI (pI w 10 (nI (β (hB B a - 10 + am)).1)) 11 (nI (β (hB B a - 10 + am)).2)) _ _ rm hb rfl rfl hvt2 (fun z => by
          have hal := G.a_le hvt2.1
          have := h2 _ hp.2 q (hB B (β (hB B a - 10 + am)).1 - 10) (by omega) ((ct_pos G hvt2.1 (by omega)).2.2 (by omega))
          have := hr (by omega)
          omega) (by omega)
        refine ⟨w2, b, bm, r1, f1.tr r2, r3, r4, r5, fun ρ hρ => ?_, fun z => absurd z hs⟩
        rw [tv_eq G hvt.1, if_neg hs, hρ _ hp.2 q]
        exact r6 ρ hρ
theorem mWalkO {B : Bk} (G : GB B) {N d : Nat} {β : Be} {w : Wd} {a am : Nat} (hN : 2000000 ≤ N) (gb : Gb B β) (rm : RM B (pI w 4 0)) (hb : Rb β w) (hvt : VT B a am) :
    ∃ w2 b bm, eX11_walk N (d + 2) w (nI a) (nI am) = some w2 ∧ Fr wkS noA w w2 ∧ sI w2 10 = nI b ∧ sI w2 11 = nI bm ∧ Wkd B β b bm ∧ (∀ ρ, sat B β ρ → tv B ρ am a = tv B ρ bm b) ∧ (hB B a < 10 → b = a ∧ bm = am) := by
  obtain ⟨r, r1, r2⟩ := gb.rk
  have key : eX11_walk N (d + 2) w (nI a) (nI am) = fX11_walk_10 N (d + 1) N (pI (pI w 10 (nI a)) 11 (nI am)) := rfl
  rw [key]
  obtain ⟨w2, b, bm, q1, q2, q3⟩ := mWalkL G (N := N) (d := d) gb.1 r2 8 N (pI (pI w 10 (nI a)) 11 (nI am)) a am rm hb rfl rfl hvt (fun z => by
    have := r1 _ ((hvt.pa G).2.2 z).2
    omega) (by omega)
  exact ⟨w2, b, bm, q1, (((Fr.rf w).pi rfl).pi rfl).tr q2, q3⟩
theorem RM.x {B : Bk} {w : Wd} (h : RM B w) : RM B (pI w 4 0) := ⟨h.1, h.2.1, rfl, h.2.2.2.1, h.2.2.2.2.1, h.2.2.2.2.2⟩
theorem mWalk {B : Bk} (G : GB B) {N d : Nat} {β : Be} {w : Wd} {a am : Nat} (hN : 2000000 ≤ N) (gb : Gb B β) (rm : RM B w) (hb : Rb β w) (hvt : VT B a am) :
    ∃ w2 b bm, eX11_walk N (d + 2) w (nI a) (nI am) = some w2 ∧ Fr wkS noA w w2 ∧ sI w2 10 = nI b ∧ sI w2 11 = nI bm ∧ Wkd B β b bm ∧ (∀ ρ, sat B β ρ → tv B ρ am a = tv B ρ bm b) ∧ (hB B a < 10 → b = a ∧ bm = am) := mWalkO G hN gb rm.x hb hvt
/-- a tree that is resolved -/
abbrev TR (B : Bk) (β : Be) (m t : Nat) : Tr := tv B (ρB B β) m t
theorem tht_nd1 {h : Nat} {a b : Tr} : tht a < tht (nd h a b) ∧ tht b < tht (nd h a b) := by
  show tht a < 1 + max (tht a) (tht b) ∧ tht b < 1 + max (tht a) (tht b)
  omega
theorem tht_pos {B : Bk} (G : GB B) {β : Be} (gb : Gb B β) {t m : Nat} (hvt : VT B t m) : 0 < tht (TR B β m t) := by
  show 0 < tht (tv B (ρB B β) m t)
  rw [tv_eq G hvt.1]
  by_cases q : hB B t < 10
  · rw [if_pos q]
    show 0 < 1 + _
    omega
  · rw [if_neg q]
    have hp := ((hvt.pa G).2.2 (by omega)).2
    obtain ⟨r, r1, r2⟩ := gb.rk
    have key : ∀ k x, x < 8 → r x < k → 0 < tht (ρB B β x) := by
      intro k
      induction k with
      | zero => intro x _ h; omega
      | succ k ihk =>
        intro x hx hk
        rw [ρB_eq G gb hx]
        by_cases q2 : (β x).1 = 2000
        · rw [if_pos q2]
          show 0 < 1
          omega
        · rw [if_neg q2]
          have hxt := (gb.1 x hx).resolve_left q2
          rw [tv_eq G hxt.1]
          by_cases q3 : hB B (β x).1 < 10
          · rw [if_pos q3]
            show 0 < 1 + _
            omega
          · rw [if_neg q3]
            have hal := G.a_le hxt.1
            have := r2 x hx q2 (hB B (β x).1 - 10) (by omega) ((ct_pos G hxt.1 (by omega)).2.2 (by omega))
            exact ihk _ ((hxt.pa G).2.2 (by omega)).2 (by omega)
    exact key (r (hB B t - 10 + m) + 1) _ hp (by omega)
theorem mStands {B : Bk} (G : GB B) {N v : Nat} {β : Be} (hN : 2000000 ≤ N) (gb : Gb B β) (hv : v < 8) : ∀ k d t m w, RM B w → Rb β w → VT B t m → tht (TR B β m t) ≤ k →
    ∃ w2, eX11_standsIn N (d + k + 3) w (nI v) (nI t) (nI m) = some (w2, if v ∈ vs (TR B β m t) then 1 else 0) ∧ Fr wkS noA w w2 := by
  have g1 := G.1
  intro k
  induction k with
  | zero =>
    intro d t m w rm hb hvt hh
    have := tht_pos G gb hvt
    omega
  | succ k ih =>
    intro d t m w rm hb hvt hh
    have key : eX11_standsIn N (d + (k + 1) + 3) w (nI v) (nI t) (nI m) = bX11_standsIn_0 N (d + k + 3) (eX11_standsIn N (d + k + 3)) w (nI v) (nI t) (nI m) := rfl
    obtain ⟨w1, b, bm, q1, q2, q3, q4, q5, q6, q7⟩ := mWalk G (N := N) (d := d + k + 1) hN gb rm hb hvt
    have q8 : eX11_walk N (d + k + 3) w (nI t) (nI m) = _ := q1
    have eT : TR B β m t = TR B β bm b := q6 _ (ρB_sat G gb)
    have rm1 : RM B w1 := rm.k q2
    have hb1 : Rb β w1 := hb.k q2
    have hbn := q5.1.1
    have mv : eX11_isVariable N (d + k + 3) w1 (nI b) = some (w1, if hB B b < 10 then 0 else 1) := mIsVar G rm1 hbn
    rw [key]
    unfold bX11_standsIn_0
    simp only [c_nm]
    rw [q8, cv_s, q3, q4, mv, cl_s]
    rw [eT] at hh ⊢
    have te := tv_eq G (ρ := ρB B β) (m := bm) hbn
    by_cases s1 : hB B b < 10
    · rw [if_pos s1] at te
      rw [if_pos s1, if_pos i00]
      have vpa := q5.1.pa G
      have hnp := (G.np hbn).1
      have parts : ∀ n w j, fX11_standsIn_49 N (d + k + 3) (eX11_standsIn N (d + k + 3)) (n + 1) w (nI v) (nI b) (nI bm) j = bX11_standsIn_49 N (d + k + 3) (eX11_standsIn N (d + k + 3)) (fX11_standsIn_49 N (d + k + 3) (eX11_standsIn N (d + k + 3)) n) w (nI v) (nI b) (nI bm) j := fun n w j => rfl
      obtain ⟨N2, hN2⟩ : ∃ N2, N = N2 + 1 + 1 + 1 := ⟨N - 3, by omega⟩
      have hN3 : fX11_standsIn_49 N (d + k + 3) (eX11_standsIn N (d + k + 3)) N w1 (nI v) (nI b) (nI bm) 0 = fX11_standsIn_49 N (d + k + 3) (eX11_standsIn N (d + k + 3)) (N2 + 1 + 1 + 1) w1 (nI v) (nI b) (nI bm) (nI 0) := by rw [← hN2]; rfl
      have hvs : v ∈ vs (TR B β bm b) ↔ ((1 ≤ npB B b ∧ v ∈ vs (TR B β bm (aB B b))) ∨ (2 ≤ npB B b ∧ v ∈ vs (TR B β bm (bB B b)))) := by
        show v ∈ vs (tv B (ρB B β) bm b) ↔ _
        rw [te]
        show v ∈ vs _ ++ vs _ ↔ _
        rw [List.mem_append]
        refine or_congr ?_ ?_
        · by_cases z : 1 ≤ npB B b
          · rw [if_pos z]; exact ⟨fun y => ⟨z, y⟩, fun y => y.2⟩
          · rw [if_neg z]; exact ⟨fun y => (by cases y), fun y => absurd y.1 z⟩
        · by_cases z : 2 ≤ npB B b
          · rw [if_pos z]; exact ⟨fun y => ⟨z, y⟩, fun y => y.2⟩
          · rw [if_neg z]; exact ⟨fun y => (by cases y), fun y => absurd y.1 z⟩
      have hta : 1 ≤ npB B b → tht (TR B β bm (aB B b)) ≤ k := fun z => by
        show tht (tv B (ρB B β) bm (aB B b)) ≤ k
        have hh2 : tht (tv B (ρB B β) bm b) ≤ k + 1 := hh
        rw [te, if_pos z] at hh2
        have := (tht_nd1 (h := hB B b) (a := tv B (ρB B β) bm (aB B b)) (b := if 2 ≤ npB B b then tv B (ρB B β) bm (bB B b) else no)).1
        omega
      have htb : 2 ≤ npB B b → tht (TR B β bm (bB B b)) ≤ k := fun z => by
        show tht (tv B (ρB B β) bm (bB B b)) ≤ k
        have hh2 : tht (tv B (ρB B β) bm b) ≤ k + 1 := hh
        rw [te, if_pos z] at hh2
        have := (tht_nd1 (h := hB B b) (a := if 1 ≤ npB B b then tv B (ρB B β) bm (aB B b) else no) (b := tv B (ρB B β) bm (bB B b))).2
        omega
      rw [hN3, parts]
      unfold bX11_standsIn_49
      simp only [c_nm]
      rw [mParts G rm1 hbn, cl_s]
      by_cases n1 : 1 ≤ npB B b
      · have la := (G.np hbn).2.2.1 n1
        have e0 : eX11_partOf N (d + k + 3) w1 (nI b) (nI 0) = some (w1, eN (aB B b)) := mPartOf0 G rm1 hbn
        obtain ⟨w2, s2, s3⟩ := ih d (aB B b) bm w1 rm1 hb1 (vpa.1 n1) (hta n1)
        rw [if_neg (fun z => by rw [nI_leI (by omega) (by omega)] at z; omega), e0, cl_s, eN_n (by omega), s2, cl_s]
        by_cases m1 : v ∈ vs (TR B β bm (aB B b))
        · rw [if_pos m1, if_neg i10, if_pos (hvs.mpr (Or.inl ⟨n1, m1⟩))]
          exact ⟨w2, rfl, q2.tr s3⟩
        · rw [if_neg m1, if_pos i00, nI_1, parts]
          have rm2 : RM B w2 := rm1.k s3
          unfold bX11_standsIn_49
          simp only [c_nm]
          rw [mParts G rm2 hbn, cl_s]
          by_cases n2 : 2 ≤ npB B b
          · have lb := (G.np hbn).2.2.2.1 n2
            have e1 : eX11_partOf N (d + k + 3) w2 (nI b) (nI (0 + 1)) = some (w2, eN (bB B b)) := mPartOf1 (by decide) G rm2 hbn
            obtain ⟨w3, s4, s5⟩ := ih d (bB B b) bm w2 rm2 (hb1.k s3) (vpa.2.1 n2) (htb n2)
            rw [if_neg (fun z => by rw [nI_leI (by omega) (by omega)] at z; omega), e1, cl_s, eN_n (by omega), s4, cl_s]
            by_cases m2 : v ∈ vs (TR B β bm (bB B b))
            · rw [if_pos m2, if_neg i10, if_pos (hvs.mpr (Or.inr ⟨n2, m2⟩))]
              exact ⟨w3, rfl, (q2.tr s3).tr s5⟩
            · rw [if_neg m2, if_pos i00, nI_1, parts]
              have rm3 : RM B w3 := rm2.k s5
              unfold bX11_standsIn_49
              rw [mParts G rm3 hbn, cl_s, if_pos ((nI_leI (by omega) (by omega)).mpr (by omega)), if_neg (fun z => by rcases hvs.mp z with y | y; exact m1 y.2; exact m2 y.2)]
              exact ⟨w3, rfl, (q2.tr s3).tr s5⟩
          · rw [if_pos ((nI_leI (by omega) (by omega)).mpr (by omega)), if_neg (fun z => by rcases hvs.mp z with y | y; exact m1 y.2; exact n2 y.1)]
            exact ⟨w2, rfl, q2.tr s3⟩
      · rw [if_pos ((nI_leI (by omega) (by omega)).mpr (by omega)), if_neg (fun z => by rcases hvs.mp z with y | y; exact n1 y.1; have := y.1; omega)]
        exact ⟨w1, rfl, q2⟩
    · rw [if_neg s1] at te
      have hun := q5.2 (by omega)
      have hp := (q5.1.pa G).2.2 (by omega)
      have mvo : eX11_variableOf N (d + k + 3) w1 (nI b) = some (w1, nI (hB B b - 10)) := mVarOf G rm1 hbn (by omega)
      rw [if_neg s1, if_neg i10, mvo, cl_s, nI_add]
      have eT2 : TR B β bm b = vr (hB B b - 10 + bm) := by
        show tv B (ρB B β) bm b = _
        rw [te, ρB_un G gb hp.2 hun]
      have hvs : v ∈ vs (TR B β bm b) ↔ hB B b - 10 + bm = v := by
        rw [eT2]
        exact ⟨fun z => (List.mem_singleton.mp z).symm, fun z => List.mem_singleton.mpr z.symm⟩
      unfold bX11_standsIn_45
      by_cases e : hB B b - 10 + bm = v
      · rw [if_pos (by rw [e]), if_pos (hvs.mpr e)]
        exact ⟨w1, bo01 (Or.inr rfl), q2⟩
      · rw [if_neg (fun z => e ((nI_eq (by omega) (by omega)).mp z)), if_neg (fun z => e (hvs.mp z))]
        exact ⟨w1, bo01 (Or.inl rfl), q2⟩
