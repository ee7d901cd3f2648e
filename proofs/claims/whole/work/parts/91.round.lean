/-! whether a variable would stand within itself -/
abbrev roA : Nat → Bool := fun k => k == 62
theorem bitT : ∀ M, M < 256 → ∀ u, u < 8 → (((nI M >>> (nI u &&& 31)) &&& 1 = 1) ↔ M.testBit u = true) := by decide +kernel
def MRw (M : Nat → Nat) (w : Wd) : Prop := ∀ v, v < 8 → M v < 256 ∧ aI w 62 v = nI (M v)
/-- one round over all rows -/
theorem cRow {N d k : Nat} {rec52 : Wd → Int32 → Option (Wd × Int32)} (hk : k < 8) : ∀ j f v M w, 8 - v ≤ j → v ≤ 8 → j < f → MRw M w →
    ∃ w2 M2, fX9_isRound_60 N d rec52 f w (nI k) (nI v) = rec52 w2 (nI (k + 1)) ∧ Fr noS roA w w2 ∧ MRw M2 w2 ∧ ∀ x, x < 8 → ∀ u, (M2 x).testBit u = ((M x).testBit u || (decide (v ≤ x) && (M x).testBit k && (M k).testBit u)) := by
  intro j
  induction j with
  | zero =>
    intro f v M w hj hv hf mr
    obtain ⟨f, rfl⟩ : ∃ f2, f = f2 + 1 := ⟨f - 1, by omega⟩
    have key : fX9_isRound_60 N d rec52 (f + 1) w (nI k) (nI v) = bX9_isRound_60 N d rec52 (fX9_isRound_60 N d rec52 f) w (nI k) (nI v) := rfl
    rw [key]
    unfold bX9_isRound_60
    rw [if_pos (by rw [show (8 : Int32) = nI 8 from rfl, nI_leI (by omega) (by omega)]; omega)]
    simp only [c_nm]
    rw [nI_1]
    refine ⟨w, M, rfl, Fr.rf w, mr, fun x hx u => ?_⟩
    rw [decide_eq_false (by omega)]
    simp
  | succ j ih =>
    intro f v M w hj hv hf mr
    obtain ⟨f, rfl⟩ : ∃ f2, f = f2 + 1 := ⟨f - 1, by omega⟩
    have key : fX9_isRound_60 N d rec52 (f + 1) w (nI k) (nI v) = bX9_isRound_60 N d rec52 (fX9_isRound_60 N d rec52 f) w (nI k) (nI v) := rfl
    by_cases e : v = 8
    · rw [key]
      unfold bX9_isRound_60
      rw [if_pos (by rw [show (8 : Int32) = nI 8 from rfl, nI_leI (by omega) (by omega)]; omega)]
      simp only [c_nm]
      rw [nI_1]
      refine ⟨w, M, rfl, Fr.rf w, mr, fun x hx u => ?_⟩
      rw [decide_eq_false (by omega)]
      simp
    · rw [key]
      unfold bX9_isRound_60 bX9_isRound_95
      have mv := mr v (by omega)
      have mk := mr k hk
      rw [if_neg (by rw [show (8 : Int32) = nI 8 from rfl, nI_leI (by omega) (by omega)]; omega), ld_n (by omega) (by omega), mv.2]
      simp only [c_nm]
      by_cases q : (M v).testBit k = true
      · rw [if_pos ((bitT _ mv.1 _ hk).mpr q), ld_n (by omega) (by omega), mv.2, ld_n (by omega) (by omega), mk.2, st_n (by omega) (by omega), nx_or, nI_1]
        have mr2 : MRw (fu M v (M v ||| M k)) (pA w 62 (upd (aI w 62) v (nI (M v ||| M k)))) := fun x hx => by
          show _ ∧ upd (aI w 62) v (nI (M v ||| M k)) x = _
          by_cases z : x = v
          · rw [z, upd_s, fu_s]; exact ⟨or_lt mv.1 mk.1, rfl⟩
          · rw [upd_n z, fu_n z]; exact mr x hx
        obtain ⟨w2, M2, o1, o2, o3, o4⟩ := ih f (v + 1) (fu M v (M v ||| M k)) _ (by omega) (by omega) (by omega) mr2
        refine ⟨w2, M2, o1, ((Fr.rf w).pa (k := 62) rfl).tr o2, o3, fun x hx u => ?_⟩
        rw [o4 x hx u]
        have ek : ∀ u, (fu M v (M v ||| M k) k).testBit u = (M k).testBit u := fun u => by
          by_cases z : k = v
          · rw [z, fu_s, Nat.testBit_or]; simp
          · rw [fu_n z]
        rw [ek]
        by_cases z : x = v
        · rw [z, fu_s, Nat.testBit_or, decide_eq_false (by omega : ¬ v + 1 ≤ v), decide_eq_true (Nat.le_refl v), q]
          simp
        · rw [fu_n z]
          have : decide (v + 1 ≤ x) = decide (v ≤ x) := decide_eq_decide.mpr (by omega)
          rw [this]
      · rw [if_neg (fun z => q ((bitT _ mv.1 _ hk).mp z)), nI_1]
        obtain ⟨w2, M2, o1, o2, o3, o4⟩ := ih f (v + 1) M w (by omega) (by omega) (by omega) mr
        refine ⟨w2, M2, o1, o2, o3, fun x hx u => ?_⟩
        rw [o4 x hx u]
        by_cases z : x = v
        · rw [z, decide_eq_false (by omega : ¬ v + 1 ≤ v), decide_eq_true (Nat.le_refl v), Bool.eq_false_iff.mpr q]
          simp
        · have : decide (v + 1 ≤ x) = decide (v ≤ x) := decide_eq_decide.mpr (by omega)
          rw [this]
/-- the last look -/
theorem cSeen {N d : Nat} {M : Nat → Nat} {w : Wd} (mr : MRw M w) : ∀ j f v, 8 - v ≤ j → v ≤ 8 → j < f → (∀ x, x < v → (M x).testBit x = false) →
    (fX9_isRound_109 N d f w (nI v) = some (w, 1) ∧ ∃ x, x < 8 ∧ (M x).testBit x = true) ∨ (fX9_isRound_109 N d f w (nI v) = some (w, 0) ∧ ∀ x, x < 8 → (M x).testBit x = false) := by
  intro j
  induction j with
  | zero =>
    intro f v hj hv hf hx
    obtain ⟨f, rfl⟩ : ∃ f2, f = f2 + 1 := ⟨f - 1, by omega⟩
    have key : fX9_isRound_109 N d (f + 1) w (nI v) = bX9_isRound_109 N d (fX9_isRound_109 N d f) w (nI v) := rfl
    rw [key]
    unfold bX9_isRound_109
    rw [if_pos (by rw [show (8 : Int32) = nI 8 from rfl, nI_leI (by omega) (by omega)]; omega)]
    exact Or.inr ⟨rfl, fun x h => hx x (by omega)⟩
  | succ j ih =>
    intro f v hj hv hf hx
    obtain ⟨f, rfl⟩ : ∃ f2, f = f2 + 1 := ⟨f - 1, by omega⟩
    have key : fX9_isRound_109 N d (f + 1) w (nI v) = bX9_isRound_109 N d (fX9_isRound_109 N d f) w (nI v) := rfl
    by_cases e : v = 8
    · rw [key]
      unfold bX9_isRound_109
      rw [if_pos (by rw [show (8 : Int32) = nI 8 from rfl, nI_leI (by omega) (by omega)]; omega)]
      exact Or.inr ⟨rfl, fun x h => hx x (by omega)⟩
    · rw [key]
      unfold bX9_isRound_109
      have mv := mr v (by omega)
      rw [if_neg (by rw [show (8 : Int32) = nI 8 from rfl, nI_leI (by omega) (by omega)]; omega), ld_n (by omega) (by omega), mv.2]
      by_cases q : (M v).testBit v = true
      · rw [if_pos ((bitT _ mv.1 _ (by omega)).mpr q)]
        exact Or.inl ⟨rfl, v, by omega, q⟩
      · rw [if_neg (fun z => q ((bitT _ mv.1 _ (by omega)).mp z))]
        simp only [c_nm]
        rw [nI_1]
        exact ih f (v + 1) (by omega) (by omega) (by omega) (fun x h => by
          by_cases z : x = v
          · rw [z]; exact Bool.eq_false_iff.mpr q
          · exact hx x (by omega))
def Tn (M : Nat → Nat) (k : Nat) : Prop := ∀ v b u, v < 8 → b < k → u < 8 → (M v).testBit b = true → (M b).testBit u = true → (M v).testBit u = true
def Pt (P : Nat → Nat → Prop) (M : Nat → Nat) : Prop := ∀ v u, v < 8 → u < 8 → (M v).testBit u = true → P v u
theorem cRows {N d : Nat} (hN : 2000000 ≤ N) {P : Nat → Nat → Prop} (ptr : ∀ x y z, P x y → P y z → P x z) : ∀ j f k M w, 8 - k ≤ j → k ≤ 8 → j < f → MRw M w → Tn M k → Pt P M →
    ∃ w2 M2 r, fX9_isRound_52 N d f w (nI k) = some (w2, r) ∧ Fr noS roA w w2 ∧ Tn M2 8 ∧ Pt P M2 ∧ (∀ v, v < 8 → ∀ u, (M v).testBit u = true → (M2 v).testBit u = true) ∧
      ((r = 1 ∧ ∃ x, x < 8 ∧ (M2 x).testBit x = true) ∨ (r = 0 ∧ ∀ x, x < 8 → (M2 x).testBit x = false)) := by
  intro j
  induction j with
  | zero =>
    intro f k M w hj hk hf mr tn pt
    obtain ⟨f, rfl⟩ : ∃ f2, f = f2 + 1 := ⟨f - 1, by omega⟩
    have key : fX9_isRound_52 N d (f + 1) w (nI k) = bX9_isRound_52 N d (fX9_isRound_52 N d f) w (nI k) := rfl
    have e : k = 8 := by omega
    subst e
    rw [key]
    unfold bX9_isRound_52
    rw [if_pos (by rw [show (8 : Int32) = nI 8 from rfl, nI_leI (by omega) (by omega)]; omega)]
    rcases cSeen (N := N) (d := d) mr 8 N 0 (by omega) (by omega) (by omega) (fun x h => by omega) with ⟨z, y⟩ | ⟨z, y⟩
    · exact ⟨w, M, 1, z, Fr.rf w, tn, pt, fun _ _ _ h => h, Or.inl ⟨rfl, y⟩⟩
    · exact ⟨w, M, 0, z, Fr.rf w, tn, pt, fun _ _ _ h => h, Or.inr ⟨rfl, y⟩⟩
  | succ j ih =>
    intro f k M w hj hk hf mr tn pt
    obtain ⟨f, rfl⟩ : ∃ f2, f = f2 + 1 := ⟨f - 1, by omega⟩
    have key : fX9_isRound_52 N d (f + 1) w (nI k) = bX9_isRound_52 N d (fX9_isRound_52 N d f) w (nI k) := rfl
    rw [key]
    unfold bX9_isRound_52
    by_cases e : k = 8
    · subst e
      rw [if_pos (by rw [show (8 : Int32) = nI 8 from rfl, nI_leI (by omega) (by omega)]; omega)]
      rcases cSeen (N := N) (d := d) mr 8 N 0 (by omega) (by omega) (by omega) (fun x h => by omega) with ⟨z, y⟩ | ⟨z, y⟩
      · exact ⟨w, M, 1, z, Fr.rf w, tn, pt, fun _ _ _ h => h, Or.inl ⟨rfl, y⟩⟩
      · exact ⟨w, M, 0, z, Fr.rf w, tn, pt, fun _ _ _ h => h, Or.inr ⟨rfl, y⟩⟩
    · rw [if_neg (by rw [show (8 : Int32) = nI 8 from rfl, nI_leI (by omega) (by omega)]; omega)]
      obtain ⟨w1, M1, o1, o2, o3, o4⟩ := cRow (N := N) (d := d) (k := k) (rec52 := fX9_isRound_52 N d f) (by omega) 8 N 0 M w (by omega) (by omega) (by omega) mr
      have o1' : fX9_isRound_60 N d (fX9_isRound_52 N d f) N w (nI k) 0 = _ := o1
      rw [o1']
      have o5 : ∀ x, x < 8 → ∀ u, (M1 x).testBit u = ((M x).testBit u || ((M x).testBit k && (M k).testBit u)) := fun x hx u => by
        rw [o4 x hx u, decide_eq_true (Nat.zero_le x)]
        simp
      have tn1 : Tn M1 (k + 1) := fun v b u hv hb hu h1 h2 => by
        have hb8 : b < 8 := by omega
        rw [o5 v hv] at h1 ⊢
        rw [o5 b hb8] at h2
        simp only [Bool.or_eq_true, Bool.and_eq_true] at h1 h2 ⊢
        by_cases eb : b = k
        · subst eb
          have x1 : (M v).testBit b = true := h1.elim id (fun z => z.1)
          have x2 : (M b).testBit u = true := h2.elim id (fun z => z.2)
          exact Or.inr ⟨x1, x2⟩
        · have lt : b < k := by omega
          rcases h1 with h1 | ⟨h1, h3⟩
          · rcases h2 with h2 | ⟨h2, h4⟩
            · exact Or.inl (tn v b u hv lt hu h1 h2)
            · exact Or.inr ⟨tn v b k hv lt (by omega) h1 h2, h4⟩
          · rcases h2 with h2 | ⟨h2, h4⟩
            · exact Or.inr ⟨h1, tn k b u (by omega) lt hu h3 h2⟩
            · exact Or.inr ⟨h1, h4⟩
      have pt1 : Pt P M1 := fun v u hv hu h => by
        rw [o5 v hv] at h
        simp only [Bool.or_eq_true, Bool.and_eq_true] at h
        rcases h with h | ⟨h, h2⟩
        · exact pt v u hv hu h
        · exact ptr _ _ _ (pt v k hv (by omega) h) (pt k u (by omega) hu h2)
      obtain ⟨w2, M2, r, z1, z2, z3, z4, z5, z6⟩ := ih f (k + 1) M1 w1 (by omega) (by omega) (by omega) o3 tn1 pt1
      refine ⟨w2, M2, r, z1, o2.tr z2, z3, z4, fun v hv u h => z5 v hv u ?_, z6⟩
      rw [o5 v hv, h]
      rfl
/-- a variable stands in what another becomes -/
def Eg (B : Bk) (s : Sht) (bc : Nat → Nat) (v u : Nat) : Prop := 8 ≤ bc v ∧ msS s (bc v) ≤ u ∧ 0 < ctB B (tmS s (bc v)) (u - msS s (bc v))
theorem cRoundL {B : Bk} {s : Sht} {N d n : Nat} {bc : Nat → Nat} (hn : n ≤ 158) (hbn : ∀ v, v < 8 → bc v < n) : ∀ j f v (M : Nat → Nat) w, 8 - v ≤ j → v ≤ 8 → j < f → SW B s n w → (∀ v, v < 8 → aI w 59 v = nI (bc v)) → (∀ x, x < v → M x < 256 ∧ aI w 62 x = nI (M x) ∧ ∀ u, u < 8 → ((M x).testBit u = true ↔ Eg B s bc x u)) →
    ∃ w2 M2, fX9_isRound_2 N (d + 1) f w (nI v) = fX9_isRound_52 N (d + 1) N w2 (nI 0) ∧ Fr noS roA w w2 ∧ MRw M2 w2 ∧ ∀ x, x < 8 → ∀ u, u < 8 → ((M2 x).testBit u = true ↔ Eg B s bc x u) := by
  intro j
  induction j with
  | zero =>
    intro f v M w hj hv hf sw h59 hx
    obtain ⟨f, rfl⟩ : ∃ f2, f = f2 + 1 := ⟨f - 1, by omega⟩
    have key : fX9_isRound_2 N (d + 1) (f + 1) w (nI v) = bX9_isRound_2 N (d + 1) (fX9_isRound_2 N (d + 1) f) w (nI v) := rfl
    rw [key]
    unfold bX9_isRound_2
    rw [if_pos (by rw [show (8 : Int32) = nI 8 from rfl, nI_leI (by omega) (by omega)]; omega)]
    exact ⟨w, M, rfl, Fr.rf w, fun x h => ⟨(hx x (by omega)).1, (hx x (by omega)).2.1⟩, fun x h => (hx x (by omega)).2.2⟩
  | succ j ih =>
    intro f v M w hj hv hf sw h59 hx
    obtain ⟨f, rfl⟩ : ∃ f2, f = f2 + 1 := ⟨f - 1, by omega⟩
    have key : fX9_isRound_2 N (d + 1) (f + 1) w (nI v) = bX9_isRound_2 N (d + 1) (fX9_isRound_2 N (d + 1) f) w (nI v) := rfl
    by_cases e : v = 8
    · rw [key]
      unfold bX9_isRound_2
      rw [if_pos (by rw [show (8 : Int32) = nI 8 from rfl, nI_leI (by omega) (by omega)]; omega)]
      exact ⟨w, M, rfl, Fr.rf w, fun x h => ⟨(hx x (by omega)).1, (hx x (by omega)).2.1⟩, fun x h => (hx x (by omega)).2.2⟩
    · rw [key]
      unfold bX9_isRound_2 bX9_isRound_43
      have hb := hbn v (by omega)
      rw [if_neg (by rw [show (8 : Int32) = nI 8 from rfl, nI_leI (by omega) (by omega)]; omega), ld_n (by omega) (by omega), h59 v (by omega), cSv (by omega), cl_s]
      have go : ∀ m, m < 256 → (∀ u, u < 8 → (m.testBit u = true ↔ Eg B s bc v u)) → ∃ w2 M2, fX9_isRound_2 N (d + 1) f (pA w 62 (upd (aI w 62) v (nI m))) (nI (v + 1)) = fX9_isRound_52 N (d + 1) N w2 (nI 0) ∧ Fr noS roA w w2 ∧ MRw M2 w2 ∧ ∀ x, x < 8 → ∀ u, u < 8 → ((M2 x).testBit u = true ↔ Eg B s bc x u) := fun m m1 m2 => by
        have ff : Fr noS roA w (pA w 62 (upd (aI w 62) v (nI m))) := (Fr.rf w).pa (k := 62) rfl
        obtain ⟨w2, M2, o1, o2, o3, o4⟩ := ih f (v + 1) (fu M v m) (pA w 62 (upd (aI w 62) v (nI m))) (by omega) (by omega) (by omega) (sw.k ff) h59 (fun x hx1 => by
          show _ ∧ upd (aI w 62) v (nI m) x = _ ∧ _
          by_cases z : x = v
          · rw [z, upd_s, fu_s]; exact ⟨m1, rfl, m2⟩
          · rw [upd_n z, fu_n z]; exact hx x (by omega))
        exact ⟨w2, M2, o1, ff.tr o2, o3, o4⟩
      by_cases q : bc v < 8
      · rw [if_pos q, if_neg i10, st_n (by omega) (by omega)]
        simp only [c_nm]
        rw [nI_1]
        exact go 0 (by omega) (fun u hu => ⟨fun z => (by rw [Nat.zero_testBit] at z; cases z), fun z => absurd z.1 (by omega)⟩)
      · obtain ⟨c1, c2, c3, c4, c5, c6, c7, c8, c9, m, m1, m2, m3⟩ := sw (bc v) (by omega) hb
        rw [if_neg q, if_pos i00, ld_n (by omega) (by omega), h59 v (by omega), ld_n (by omega) (by omega), m2, st_n (by omega) (by omega)]
        simp only [c_nm]
        rw [nI_1]
        exact go m m1 (fun u hu => by
          rw [m3 u hu, decide_eq_true_eq]
          exact ⟨fun z => ⟨by omega, z.1, z.2⟩, fun z => ⟨z.2.1, z.2.2⟩⟩)
theorem cRound {B : Bk} {s : Sht} {N d n : Nat} {bc : Nat → Nat} {w : Wd} (hN : 2000000 ≤ N) (hn : n ≤ 158) (hbn : ∀ v, v < 8 → bc v < n) (sw : SW B s n w) (h59 : ∀ v, v < 8 → aI w 59 v = nI (bc v)) {P : Nat → Nat → Prop} (ptr : ∀ x y z, P x y → P y z → P x z) (pe : ∀ v u, v < 8 → u < 8 → Eg B s bc v u → P v u) :
    ∃ w2 r, eX9_isRound N (d + 2) w = some (w2, r) ∧ Fr noS roA w w2 ∧ ((r = 1 ∧ ∃ x, x < 8 ∧ P x x) ∨
      (r = 0 ∧ ∃ M : Nat → Nat, Tn M 8 ∧ (∀ x, x < 8 → (M x).testBit x = false) ∧ ∀ v u, v < 8 → u < 8 → Eg B s bc v u → (M v).testBit u = true)) := by
  have key : eX9_isRound N (d + 2) w = fX9_isRound_2 N (d + 1) N w (nI 0) := rfl
  rw [key]
  obtain ⟨w1, M1, o1, o2, o3, o4⟩ := cRoundL (N := N) (d := d) (B := B) (s := s) (bc := bc) hn hbn 8 N 0 (fun _ => 0) w (by omega) (by omega) (by omega) sw h59 (fun x h => by omega)
  rw [o1]
  obtain ⟨w2, M2, r, z1, z2, z3, z4, z5, z6⟩ := cRows (N := N) (d := d + 1) hN (P := P) ptr 8 N 0 M1 w1 (by omega) (by omega) (by omega) o3 (fun v b u _ hb => by omega) (fun v u hv hu h => pe v u hv hu ((o4 v hv u hu).mp h))
  refine ⟨w2, r, z1, o2.tr z2, ?_⟩
  rcases z6 with ⟨y, x, hx, h⟩ | ⟨y, h⟩
  · exact Or.inl ⟨y, x, hx, z4 x x hx hx h⟩
  · exact Or.inr ⟨y, M2, z3, h, fun v u hv hu g => z5 v hv u ((o4 v hv u hu).mpr g)⟩
/-! what a solution is, and the class's own -/
def rhF (B : Bk) (s : Sht) (bc : Nat → Nat) : Nat → Nat → Tr
  | 0 => fun v => vr v
  | f + 1 => fun v => if bc v < 8 then vr (bc v) else tv B (rhF B s bc f) (msS s (bc v)) (tmS s (bc v))
def ρC (B : Bk) (s : Sht) (bc : Nat → Nat) : Nat → Tr := rhF B s bc 9
/-- how many a row reaches -/
def cBt (m : Nat) : Nat → Nat
  | 0 => 0
  | n + 1 => cBt m n + (if m.testBit n = true then 1 else 0)
theorem cBt_le (m : Nat) : ∀ n, cBt m n ≤ n := by
  intro n
  induction n with
  | zero => exact Nat.le_refl _
  | succ n ih => unfold cBt; split <;> omega
theorem cBt_mn {a b : Nat} : ∀ n, (∀ u, u < n → a.testBit u = true → b.testBit u = true) → cBt a n ≤ cBt b n := by
  intro n
  induction n with
  | zero => intro _; exact Nat.le_refl _
  | succ n ih =>
    intro h
    have i := ih (fun u hu => h u (by omega))
    unfold cBt
    by_cases q : a.testBit n = true
    · rw [if_pos q, if_pos (h n (by omega) q)]; omega
    · rw [if_neg q]; split <;> omega
theorem cBt_lt {a b x : Nat} (h1 : a.testBit x = false) (h2 : b.testBit x = true) : ∀ n, x < n → (∀ u, u < n → a.testBit u = true → b.testBit u = true) → cBt a n < cBt b n := by
  intro n
  induction n with
  | zero => intro h; omega
  | succ n ih =>
    intro hx h
    unfold cBt
    by_cases e : x = n
    · subst e
      have i := cBt_mn (a := a) (b := b) x (fun u hu => h u (by omega))
      rw [if_neg (by rw [h1]; exact Bool.false_ne_true), if_pos h2]
      omega
    · have i := ih (by omega) (fun u hu => h u (by omega))
      by_cases q : a.testBit n = true
      · rw [if_pos q, if_pos (h n (by omega) q)]; omega
      · rw [if_neg q]; split <;> omega
/-- ranks that fall -/
theorem rk_of {B : Bk} {s : Sht} {bc : Nat → Nat} {M : Nat → Nat} (h1 : Tn M 8) (h2 : ∀ x, x < 8 → (M x).testBit x = false) (h3 : ∀ v u, v < 8 → u < 8 → Eg B s bc v u → (M v).testBit u = true) : ∃ r : Nat → Nat, (∀ v, r v ≤ 8) ∧ ∀ v u, v < 8 → u < 8 → Eg B s bc v u → r u < r v :=
  ⟨fun v => cBt (M v) 8, fun v => cBt_le _ 8, fun v u hv hu g => cBt_lt (h2 u hu) (h3 v u hv hu g) 8 hu (fun x hx q => h1 v u x hv hu hx (h3 v u hv hu g) q)⟩
theorem rhF_st {B : Bk} (G : GB B) {s : Sht} {bc r : Nat → Nat} (hvt : ∀ v, v < 8 → 8 ≤ bc v → VT B (tmS s (bc v)) (msS s (bc v))) (h2 : ∀ v u, v < 8 → u < 8 → Eg B s bc v u → r u < r v) : ∀ k f g v, v < 8 → r v < k → r v < f → r v < g → rhF B s bc f v = rhF B s bc g v := by
  intro k
  induction k with
  | zero => intro f g v _ h; omega
  | succ k ih =>
    intro f g v hv h hf hg
    obtain ⟨f, rfl⟩ : ∃ f2, f = f2 + 1 := ⟨f - 1, by omega⟩
    obtain ⟨g, rfl⟩ : ∃ g2, g = g2 + 1 := ⟨g - 1, by omega⟩
    unfold rhF
    by_cases q : bc v < 8
    · rw [if_pos q, if_pos q]
    · rw [if_neg q, if_neg q]
      have ht := hvt v hv (by omega)
      refine tv_cg G (tmS s (bc v) + 1) _ (by omega) ht.1 (fun u hu hc => ?_)
      have ix := (ht.ix hu hc).2
      have := h2 v (u + msS s (bc v)) hv ix ⟨by omega, by omega, by rw [show u + msS s (bc v) - msS s (bc v) = u by omega]; exact hc⟩
      exact ih f g _ ix (by omega) (by omega) (by omega)
theorem ρC_eq {B : Bk} (G : GB B) {s : Sht} {bc r : Nat → Nat} (hvt : ∀ v, v < 8 → 8 ≤ bc v → VT B (tmS s (bc v)) (msS s (bc v))) (h1 : ∀ v, r v ≤ 8) (h2 : ∀ v u, v < 8 → u < 8 → Eg B s bc v u → r u < r v) {v : Nat} (hv : v < 8) :
    ρC B s bc v = if bc v < 8 then vr (bc v) else tv B (ρC B s bc) (msS s (bc v)) (tmS s (bc v)) := by
  have e : ρC B s bc v = if bc v < 8 then vr (bc v) else tv B (rhF B s bc 8) (msS s (bc v)) (tmS s (bc v)) := rfl
  rw [e]
  by_cases q : bc v < 8
  · rw [if_pos q, if_pos q]
  · rw [if_neg q, if_neg q]
    have ht := hvt v hv (by omega)
    refine tv_cg G (tmS s (bc v) + 1) _ (by omega) ht.1 (fun u hu hc => ?_)
    have ix := (ht.ix hu hc).2
    have a := h2 v (u + msS s (bc v)) hv ix ⟨by omega, by omega, by rw [show u + msS s (bc v) - msS s (bc v) = u by omega]; exact hc⟩
    have b := h1 v
    exact rhF_st G hvt h2 9 8 9 _ ix (by omega) (by omega) (by omega)
/-- every solution is an instance of the class's own -/
theorem ρC_sub {B : Bk} (G : GB B) {s : Sht} {bc r : Nat → Nat} {n : Nat} (hn : n ≤ 158) (hbn : ∀ v, v < 8 → bc v < n) (hvt : ∀ v, v < 8 → 8 ≤ bc v → VT B (tmS s (bc v)) (msS s (bc v))) (h1 : ∀ v, r v ≤ 8) (h2 : ∀ v u, v < 8 → u < 8 → Eg B s bc v u → r u < r v) {ρ : Nat → Tr} (hs : ∀ x, x < 8 → nv B s ρ x = nv B s ρ (bc x)) : ∀ v, v < 8 → sub ρ (ρC B s bc v) = ρ v := by
  have key : ∀ k v, v < 8 → r v < k → sub ρ (ρC B s bc v) = ρ v := by
    intro k
    induction k with
    | zero => intro v _ h; omega
    | succ k ih =>
      intro v hv hk
      have e := hs v hv
      rw [nv_v hv] at e
      rw [ρC_eq G hvt h1 h2 hv]
      by_cases q : bc v < 8
      · rw [if_pos q, sub_vr, e, nv_v q]
      · have ht := hvt v hv (by omega)
        rw [if_neg q, tv_sub G (tmS s (bc v) + 1) _ (by omega) ht.1, e, nv_s (by omega) (by have := hbn v hv; omega)]
        refine tv_cg G (tmS s (bc v) + 1) _ (by omega) ht.1 (fun u hu hc => ?_)
        have ix := (ht.ix hu hc).2
        have a := h2 v (u + msS s (bc v)) hv ix ⟨by omega, by omega, by rw [show u + msS s (bc v) - msS s (bc v) = u by omega]; exact hc⟩
        exact ih _ ix (by omega)
  intro v hv
  exact key (r v + 1) v hv (by omega)
/-- it is a solution -/
theorem ρC_sol {B : Bk} (G : GB B) {s : Sht} {bc r : Nat → Nat} {n a0 b0 : Nat} {w : Wd} (hn : n ≤ 158) (h8 : 8 ≤ n) (sw : SW B s n w) (hb : BC n (hdS B s) (f1S s) (f2S s) a0 b0 bc) (h1 : ∀ v, r v ≤ 8) (h2 : ∀ v u, v < 8 → u < 8 → Eg B s bc v u → r u < r v) : ∀ x y, x < n → y < n → bc x = bc y → nv B s (ρC B s bc) x = nv B s (ρC B s bc) y := by
  have sh := sw.sh G h8 hn
  have hvt : ∀ v, v < 8 → 8 ≤ bc v → VT B (tmS s (bc v)) (msS s (bc v)) := fun v hv q => (sw _ q (hb.1 v (by omega)).1).1
  have vv : ∀ x, x < 8 → 8 ≤ bc x → nv B s (ρC B s bc) x = nv B s (ρC B s bc) (bc x) := fun x hx q => by
    have := (hb.1 x (by omega)).1
    rw [nv_v hx, nv_s q (by omega), ρC_eq G hvt h1 h2 hx, if_neg (by omega)]
  have key : ∀ k x y, tsz (nv B s (ρC B s bc) x) + tsz (nv B s (ρC B s bc) y) < k → x < n → y < n → bc x = bc y → nv B s (ρC B s bc) x = nv B s (ρC B s bc) y := by
    intro k
    induction k with
    | zero => intro x y h; omega
    | succ k ih =>
      intro x y hk hx hy e
      -- both signs
      have ss : ∀ x y, tsz (nv B s (ρC B s bc) x) + tsz (nv B s (ρC B s bc) y) < k + 1 → x < n → y < n → 8 ≤ x → 8 ≤ y → bc x = bc y → nv B s (ρC B s bc) x = nv B s (ρC B s bc) y := by
        intro x y hk hx hy x8 y8 e
        obtain ⟨b1, b2, b3⟩ := hb.1 x hx
        obtain ⟨b4, b5, b6, b7, b8, b9⟩ := b3 x8
        obtain ⟨c1, c2, c3⟩ := hb.1 y hy
        obtain ⟨c4, c5, c6, c7, c8, c9⟩ := c3 y8
        have p1 := sh.2.2.1 x hx x8
        have p2 := sh.2.2.1 y hy y8
        have eh : hdS B s x = hdS B s y := by rw [b5, c5, e]
        have ex := nv_nd (ρ := ρC B s bc) G sw hn x8 hx
        have ey := nv_nd (ρ := ρC B s bc) G sw hn y8 hy
        have tx : tsz (nv B s (ρC B s bc) x) = 1 + tsz (nv B s (ρC B s bc) (f1S s x)) + tsz (nv B s (ρC B s bc) (f2S s x)) := by rw [ex]; rfl
        have ty : tsz (nv B s (ρC B s bc) y) = 1 + tsz (nv B s (ρC B s bc) (f1S s y)) + tsz (nv B s (ρC B s bc) (f2S s y)) := by rw [ey]; rfl
        have q1 : nv B s (ρC B s bc) (f1S s x) = nv B s (ρC B s bc) (f1S s y) := by
          rcases p1.1 with z | z
          · have y1 : f1S s y < n := p2.1.resolve_right (fun u => by
              have := b6.mpr (by rw [e]; exact c6.mp u)
              omega)
            exact ih _ _ (by omega) z y1 (by rw [b8 z, c8 y1, e])
          · rw [z, c6.mpr (by rw [← e]; exact b6.mp z)]
        have q2 : nv B s (ρC B s bc) (f2S s x) = nv B s (ρC B s bc) (f2S s y) := by
          rcases p1.2 with z | z
          · have y1 : f2S s y < n := p2.2.resolve_right (fun u => by
              have := b7.mpr (by rw [e]; exact c7.mp u)
              omega)
            exact ih _ _ (by omega) z y1 (by rw [b9 z, c9 y1, e])
          · rw [z, c7.mpr (by rw [← e]; exact b7.mp z)]
        rw [ex, ey, eh, q1, q2]
      by_cases q : bc x < 8
      · have x8 : x < 8 := by
          apply Decidable.byContradiction
          intro z
          have := ((hb.1 x hx).2.2 (by omega)).1
          omega
        have y8 : y < 8 := by
          apply Decidable.byContradiction
          intro z
          have := ((hb.1 y hy).2.2 (by omega)).1
          omega
        rw [nv_v x8, nv_v y8, ρC_eq G hvt h1 h2 x8, ρC_eq G hvt h1 h2 y8, if_pos q, if_pos (by omega), e]
      · have rx : ∃ x2, x2 < n ∧ 8 ≤ x2 ∧ bc x2 = bc x ∧ nv B s (ρC B s bc) x2 = nv B s (ρC B s bc) x := by
          by_cases x8 : x < 8
          · exact ⟨bc x, (hb.1 x hx).1, by omega, (hb.1 x hx).2.1, (vv x x8 (by omega)).symm⟩
          · exact ⟨x, hx, by omega, rfl, rfl⟩
        have ry : ∃ y2, y2 < n ∧ 8 ≤ y2 ∧ bc y2 = bc y ∧ nv B s (ρC B s bc) y2 = nv B s (ρC B s bc) y := by
          by_cases y8 : y < 8
          · exact ⟨bc y, (hb.1 y hy).1, by omega, (hb.1 y hy).2.1, (vv y y8 (by omega)).symm⟩
          · exact ⟨y, hy, by omega, rfl, rfl⟩
        obtain ⟨x2, x3, x4, x5, x6⟩ := rx
        obtain ⟨y2, y3, y4, y5, y6⟩ := ry
        rw [← x6, ← y6] at hk ⊢
        exact ss x2 y2 hk x3 y3 x4 y4 (by rw [x5, y5, e])
  intro x y hx hy e
  exact key _ x y (Nat.lt_succ_self _) hx hy e
