/-! the reference's bank -/
def sg (h : Nat) : Int32 := if h < 10 then nI h else -1 - nI (h - 10)
theorem sg_all : ∀ h, h < 18 → (0 ≤ sg h ↔ h < 10) ∧ (h < 10 → sg h = nI h) ∧ (10 ≤ h → (-1 : Int32) - sg h = nI (h - 10)) ∧ (∀ k, k < 18 → sg h = sg k → h = k) ∧ (∀ v, v < 8 → (sg h = (-1) - nI v ↔ h = 10 + v)) := by decide +kernel
/-- the reference's world holds the bank -/
def RM (B : Bk) (w : Wd) : Prop :=
  sI w 1 = nI (sB B) ∧ sI w 2 = nI (nB B) ∧ sI w 4 = 0 ∧
  (∀ k, k < sB B → aI w 1 k = nI (arB B k) ∧ aI w 2 k = nI (wtB B k)) ∧
  (∀ t, t < nB B → aI w 3 t = sg (hB B t) ∧ aI w 4 t = eN (aB B t) ∧ aI w 5 t = eN (bB B t) ∧ aL w 6 t = lN (szB B t) ∧ aL w 7 t = lN (wgB B t)) ∧
  (∀ t, t < nB B → ∀ v, v < 8 → aL w 8 (8 * t + v) = lN (ctB B t v))
def FrM (w w2 : Wd) : Prop := (∀ k, k ≠ 2 → sI w2 k = sI w k) ∧ (∀ k, (k < 3 ∨ 8 < k) → aI w2 k = aI w k ∧ aL w2 k = aL w k) ∧ ∀ k, sL w2 k = sL w k
theorem FrM.rf (w : Wd) : FrM w w := ⟨fun _ _ => rfl, fun _ _ => ⟨rfl, rfl⟩, fun _ => rfl⟩
theorem FrM.tr {w w2 w3 : Wd} (h : FrM w w2) (h2 : FrM w2 w3) : FrM w w3 := ⟨fun k hk => (h2.1 k hk).trans (h.1 k hk), fun k hk => ⟨(h2.2.1 k hk).1.trans (h.2.1 k hk).1, (h2.2.1 k hk).2.trans (h.2.1 k hk).2⟩, fun k => (h2.2.2 k).trans (h.2.2 k)⟩
theorem mCap {N d x : Nat} {w : Wd} (hx : x < 2 ^ 62) : eX11_cap N (d + 1) w (lN x) = some (w, lN (capN x)) := by
  show bX11_cap_0 N d w (lN x) = _
  unfold bX11_cap_0 bX11_cap_15
  rw [lN_cap]
  by_cases q : x ≤ 1000000000000000
  · rw [if_pos ((lc_le (by omega) (by omega)).mpr q), show capN x = x from by rw [capN, if_neg (by omega)]]
  · rw [if_neg (fun z => q ((lc_le (by omega) (by omega)).mp z)), show capN x = 1000000000000000 from by rw [capN, if_pos (by omega)]]
theorem mMakeA {B : Bk} {w : Wd} (G : GB B) (R : RM B w) {N d h a b many t : Nat} (hh : h < 18) (ha : a ≤ 2000) (hb : b ≤ 2000) (ht : t < nB B) (e1 : hB B t = h) (e2 : aB B t = a) (e3 : bB B t = b) :
    ∀ (k m : Nat), m ≤ t → t - m < k → fX11_make_53 N d k w (sg h) (nI many) (eN a) (eN b) (nI m) = some (w, nI t) := by
  intro k
  induction k with
  | zero => intro m h1 h2; omega
  | succ k ih =>
    intro m hm hk
    have g1 := G.1
    show bX11_make_53 N d (fX11_make_53 N d k) w (sg h) (nI many) (eN a) (eN b) (nI m) = _
    unfold bX11_make_53
    have hr := R.2.2.2.2.1 m (by omega)
    have hal := G.a_le (t := m) (by omega)
    rw [R.2.1, if_neg (fun q => by rw [nI_leI (by omega) (by omega)] at q; omega), ld_n (by omega) (by omega), hr.1]
    have nx : m ≠ t → bX11_make_100 N d (fX11_make_53 N d k) w (sg h) (nI many) (eN a) (eN b) (nI m) = some (w, nI t) := fun hne => by
      unfold bX11_make_100
      simp only [c_nm]
      rw [nI_1]
      exact ih (m + 1) (by omega) (by omega)
    by_cases e : m = t
    · subst e
      rw [if_pos (by rw [e1]), ld_n (by omega) (by omega), hr.2.1, if_pos (by rw [e2]), ld_n (by omega) (by omega), hr.2.2.1, if_pos (by rw [e3])]
    · by_cases q1 : hB B m = h
      · rw [if_pos (by rw [q1]), ld_n (by omega) (by omega), hr.2.1]
        by_cases q2 : aB B m = a
        · rw [if_pos (by rw [q2]), ld_n (by omega) (by omega), hr.2.2.1]
          by_cases q3 : bB B m = b
          · exact absurd (G.2.2.2.2.2.1 m t (by omega) ht (q1.trans e1.symm) (q2.trans e2.symm) (q3.trans e3.symm)) e
          · rw [if_neg (fun z => q3 ((eN_eq hal.2.1 hb).mp z)), nx e]
        · rw [if_neg (fun z => q2 ((eN_eq hal.1 ha).mp z)), nx e]
      · rw [if_neg (fun z => q1 ((sg_all _ hal.2.2).2.2.2.1 h hh z)), nx e]
theorem mMakeB {B : Bk} {w : Wd} (G : GB B) (R : RM B w) {N d h a b many : Nat} (hh : h < 18) (ha : a ≤ 2000) (hb : b ≤ 2000) (hno : NewN B h a b) :
    ∀ (k m : Nat), m ≤ nB B → nB B - m < k → fX11_make_53 N d k w (sg h) (nI many) (eN a) (eN b) (nI m) = bX11_make_53 N d (fun _ _ _ _ _ _ => none) w (sg h) (nI many) (eN a) (eN b) (nI (nB B)) := by
  intro k
  induction k with
  | zero => intro m h1 h2; omega
  | succ k ih =>
    intro m hm hk
    have g1 := G.1
    show bX11_make_53 N d (fX11_make_53 N d k) w (sg h) (nI many) (eN a) (eN b) (nI m) = _
    by_cases e : m = nB B
    · subst e
      unfold bX11_make_53
      have hc : nI (nB B) ≤ nI (nB B) := by rw [nI_leI (by omega) (by omega)]; omega
      rw [R.2.1]
      simp only [if_pos hc]
    · have hr := R.2.2.2.2.1 m (by omega)
      have hal := G.a_le (t := m) (by omega)
      have nx : bX11_make_100 N d (fX11_make_53 N d k) w (sg h) (nI many) (eN a) (eN b) (nI m) = bX11_make_53 N d (fun _ _ _ _ _ _ => none) w (sg h) (nI many) (eN a) (eN b) (nI (nB B)) := by
        unfold bX11_make_100
        simp only [c_nm]
        rw [nI_1]
        exact ih (m + 1) (by omega) (by omega)
      rw [← nx]
      conv => lhs; unfold bX11_make_53
      rw [R.2.1, if_neg (fun q => by rw [nI_leI (by omega) (by omega)] at q; omega), ld_n (by omega) (by omega), hr.1]
      by_cases q1 : hB B m = h
      · rw [if_pos (by rw [q1]), ld_n (by omega) (by omega), hr.2.1]
        by_cases q2 : aB B m = a
        · rw [if_pos (by rw [q2]), ld_n (by omega) (by omega), hr.2.2.1]
          by_cases q3 : bB B m = b
          · exact absurd ⟨q1, q2, q3⟩ (hno m (by omega))
          · rw [if_neg (fun z => q3 ((eN_eq hal.2.1 hb).mp z))]
        · rw [if_neg (fun z => q2 ((eN_eq hal.1 ha).mp z))]
      · rw [if_neg (fun z => q1 ((sg_all _ hal.2.2).2.2.2.1 h hh z))]
/-- counts are laid down one after the other -/
theorem mCounts {N d h a b t k : Nat} {c : Nat → Nat} (ht : t < 1000) (hh : h < 18) (A C : Nat → Nat) (hA : ∀ v, v < 8 → 1 ≤ k → A v ≤ 1000000000000000) (hC : ∀ v, v < 8 → 2 ≤ k → C v ≤ 1000000000000000) (ha : 1 ≤ k → a < t) (hb : 2 ≤ k → b < t) (hk : k ≤ 2)
    (hc : ∀ v, v < 8 → c v = capN ((if h = 10 + v then 1 else 0) + two k (A v) (C v))) :
    ∀ (n v : Nat) (w : Wd), v ≤ 8 → 8 - v < n → (∀ u, u < 8 → 1 ≤ k → aL w 8 (8 * a + u) = lN (A u)) → (∀ u, u < 8 → 2 ≤ k → aL w 8 (8 * b + u) = lN (C u)) →
      ∃ g : Nat → Int64, (∀ u, v ≤ u → u < 8 → g (8 * t + u) = lN (c u)) ∧ (∀ j, (j < 8 * t + v ∨ 8 * t + 8 ≤ j) → g j = aL w 8 j) ∧ fX11_make_274 N (d + 1) n w (sg h) (nI k) (eN a) (eN b) (nI t) (nI v) = some (pB w 8 g, nI t) := by
  intro n
  induction n with
  | zero => intro v w h1 h2; omega
  | succ n ih =>
    intro v w hv hn wa wb
    show ∃ g : Nat → Int64, _ ∧ _ ∧ bX11_make_274 N (d + 1) (fX11_make_274 N (d + 1) n) w (sg h) (nI k) (eN a) (eN b) (nI t) (nI v) = _
    by_cases e : v = 8
    · subst e
      refine ⟨aL w 8, fun u h1 h2 => by omega, fun j _ => rfl, ?_⟩
      unfold bX11_make_274
      rw [if_pos (by decide)]
      have : pB w 8 (aL w 8) = w := by
        unfold pB aL
        refine Prod.ext rfl (Prod.ext rfl (Prod.ext (funext fun j => ?_) rfl))
        show (if j = 8 then _ else _) = _
        split
        · rename_i q; rw [q]
        · rfl
      rw [this]
    · have hv8 : v < 8 := by omega
      have h352 : ∀ (x y : Nat), x + y < 2 ^ 62 → bX11_make_352 N (d + 1) (fX11_make_274 N (d + 1) n) w (sg h) (nI k) (eN a) (eN b) (nI t) (nI v) (nI (8 * t + v)) (lN x) (lN y) = fX11_make_274 N (d + 1) n (pB w 8 (vp_updL (aL w 8) (8 * t + v) (lN (capN (x + y))))) (sg h) (nI k) (eN a) (eN b) (nI t) (nI (v + 1)) := by
        intro x y hxy
        unfold bX11_make_352
        rw [lN_add, mCap hxy, cl_s, sl_n (by omega) (by omega)]
        simp only [c_nm]
        rw [nI_1]
      have h328 : ∀ (x y : Nat), x + y ≤ 1000000000000001 → bX11_make_328 N (d + 1) (fX11_make_274 N (d + 1) n) w (sg h) (nI k) (eN a) (eN b) (nI t) (nI v) (nI (8 * t + v)) (lN x) (lN y) = fX11_make_274 N (d + 1) n (pB w 8 (vp_updL (aL w 8) (8 * t + v) (lN (capN (x + y + (if 2 ≤ k then C v else 0)))))) (sg h) (nI k) (eN a) (eN b) (nI t) (nI (v + 1)) := by
        intro x y hxy
        unfold bX11_make_328
        by_cases q : 2 ≤ k
        · rw [if_neg (fun z => by rw [show (1 : Int32) = nI 1 from rfl, nI_leI (by omega) (by omega)] at z; omega), eN_n (by have := hb q; omega), show (8 : Int32) = nI 8 from rfl, pk_mul, nI_add, ll_n (by have := hb q; omega) (by omega), wb v hv8 q, lN_add, if_pos q]
          have := hC v hv8 q
          rw [eN_n (x := b) (by have := hb q; omega)] at h352
          exact h352 (x + y) (C v) (by omega)
        · rw [if_pos (by rw [show (1 : Int32) = nI 1 from rfl, nI_leI (by omega) (by omega)]; omega), lN_add, if_neg q]
          exact h352 (x + y) 0 (by omega)
      have h306 : ∀ (x : Nat), x ≤ 1 → bX11_make_306 N (d + 1) (fX11_make_274 N (d + 1) n) w (sg h) (nI k) (eN a) (eN b) (nI t) (nI v) (nI (8 * t + v)) (lN x) = fX11_make_274 N (d + 1) n (pB w 8 (vp_updL (aL w 8) (8 * t + v) (lN (capN (x + two k (A v) (C v)))))) (sg h) (nI k) (eN a) (eN b) (nI t) (nI (v + 1)) := by
        intro x hx
        unfold bX11_make_306 two
        by_cases q : 1 ≤ k
        · have := hA v hv8 q
          rw [if_neg (fun z => by rw [show (0 : Int32) = nI 0 from rfl, nI_leI (by omega) (by omega)] at z; omega), if_pos q, ← Nat.add_assoc]
          rw [eN_n (x := a) (by have := ha q; omega)] at h328 ⊢
          rw [show (8 : Int32) = nI 8 from rfl, pk_mul, nI_add, ll_n (by have := ha q; omega) (by omega), wa v hv8 q]
          exact h328 x (A v) (by omega)
        · rw [if_pos (by rw [show (0 : Int32) = nI 0 from rfl, nI_leI (by omega) (by omega)]; omega), if_neg q]
          have := h328 x 0 (by omega)
          rw [Nat.zero_add]
          exact this
      have step : bX11_make_274 N (d + 1) (fX11_make_274 N (d + 1) n) w (sg h) (nI k) (eN a) (eN b) (nI t) (nI v) = fX11_make_274 N (d + 1) n (pB w 8 (vp_updL (aL w 8) (8 * t + v) (lN (c v)))) (sg h) (nI k) (eN a) (eN b) (nI t) (nI (v + 1)) := by
        unfold bX11_make_274
        rw [if_neg (fun z => by rw [show (8 : Int32) = nI 8 from rfl, nI_leI (by omega) (by omega)] at z; omega), show (8 : Int32) = nI 8 from rfl, pk_mul, nI_add, hc v hv8]
        by_cases q : h = 10 + v
        · rw [if_pos (((sg_all h hh).2.2.2.2 v hv8).mpr q), if_pos q]
          exact h306 1 (by omega)
        · rw [if_neg (fun z => q (((sg_all h hh).2.2.2.2 v hv8).mp z)), if_neg q]
          exact h306 0 (by omega)
      rw [step]
      obtain ⟨g, g1, g2, g3⟩ := ih (v + 1) (pB w 8 (vp_updL (aL w 8) (8 * t + v) (lN (c v)))) (by omega) (by omega) (fun u hu q => by
        rw [aL_pB, if_pos rfl, updL_n (by have := ha q; omega)]; exact wa u hu q) (fun u hu q => by
        rw [aL_pB, if_pos rfl, updL_n (by have := hb q; omega)]; exact wb u hu q)
      refine ⟨g, fun u h1 h2 => ?_, fun j hj => ?_, ?_⟩
      · by_cases e2 : u = v
        · rw [e2, g2 (8 * t + v) (by omega), aL_pB, if_pos rfl, updL_s]
        · exact g1 u (by omega) h2
      · rw [g2 j (by omega), aL_pB, if_pos rfl, updL_n (by omega)]
      · rw [g3]
        have : pB (pB w 8 (vp_updL (aL w 8) (8 * t + v) (lN (c v)))) 8 g = pB w 8 g := by
          unfold pB
          refine Prod.ext rfl (Prod.ext rfl (Prod.ext (funext fun j => ?_) rfl))
          show (if j = 8 then g else (if j = 8 then _ else _)) = (if j = 8 then g else _)
          split <;> rfl
        rw [this]
