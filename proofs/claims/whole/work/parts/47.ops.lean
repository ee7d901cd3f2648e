/-! worlds, rows filled -/
theorem i10 : ¬ (1 : Int32) = 0 := by decide
theorem i00 : (0 : Int32) = 0 := rfl
theorem pA_pA (w : Wd) (k : Nat) (f g : Nat → Int32) : pA (pA w k f) k g = pA w k g := by
  unfold pA
  refine congrArg (fun z => (w.1, z, w.2.2)) (funext fun j => ?_)
  show (if j = k then g else if j = k then f else w.2.1 j) = _
  split <;> rfl
theorem pA_eta (w : Wd) (k : Nat) : pA w k (aI w k) = w := by
  obtain ⟨a, b, c, e⟩ := w
  unfold pA aI
  refine congrArg (fun z => (a, z, c, e)) (funext fun j => ?_)
  show (if j = k then b k else b j) = b j
  split
  · rename_i q; rw [q]
  · rfl
theorem pA_self {w : Wd} {k : Nat} {f : Nat → Int32} (h : f = aI w k) : pA w k f = w := by rw [h]; exact pA_eta w k
def fil (f : Nat → Int32) (j n : Nat) (x : Int32) : Nat → Int32 := fun i => if j ≤ i ∧ i < n then x else f i
theorem fil_in {f : Nat → Int32} {j n i : Nat} {x : Int32} (h : j ≤ i) (h2 : i < n) : fil f j n x i = x := if_pos ⟨h, h2⟩
theorem fil_out {f : Nat → Int32} {j n i : Nat} {x : Int32} (h : i < j ∨ n ≤ i) : fil f j n x i = f i := if_neg (by omega)
theorem fil_gen (F : Nat → Wd → Int32 → Int32 → Int32 → Option Wd) (k n : Nat) (hn : n ≤ 8192) (hF : ∀ m w x i e, F (m + 1) w x i e = if e ≤ i then some w else c_st w k n i x fun w1 => c_nm (i + 1) fun i2 => F m w1 x i2 e) :
    ∀ m j w x, j ≤ n → n < m + j → F m w x (nI j) (nI n) = some (pA w k (fil (aI w k) j n x)) := by
  intro m
  induction m with
  | zero => intro j w x h1 h2; omega
  | succ m ih =>
    intro j w x h1 h2
    rw [hF]
    by_cases e : n ≤ j
    · rw [if_pos ((nI_leI (by omega) (by omega)).mpr e)]
      congr 1
      exact (pA_self (funext fun i => fil_out (by omega))).symm
    · rw [if_neg (fun q => e ((nI_leI (by omega) (by omega)).mp q)), st_n (by omega) hn, c_nm, nI_1, ih (j + 1) _ x (by omega) (by omega), pA_pA]
      congr 2
      funext i
      show (if j + 1 ≤ i ∧ i < n then x else aI (pA w k _) k i) = _
      rw [aI_pA, if_pos rfl]
      by_cases q : j + 1 ≤ i ∧ i < n
      · rw [if_pos q, fil_in (by omega) q.2]
      · rw [if_neg q]
        by_cases q2 : i = j
        · rw [q2, upd_s, fil_in (by omega) (by omega)]
        · rw [upd_n q2, fil_out (by omega)]
theorem fill35 {N d : Nat} {w : Wd} {x : Int32} (hN : 2000000 ≤ N) : eJ7_fill_53178_r35 N (d + 1) w x = some (pA w 35 (fil (aI w 35) 0 160 x)) :=
  fil_gen (fJ7_fill_53178_r35_5 N d) 35 160 (by omega) (fun _ _ _ _ _ => rfl) N 0 w x (by omega) (by omega)
theorem fill36 {N d : Nat} {w : Wd} {x : Int32} (hN : 2000000 ≤ N) : eJ7_fill_53178_r36 N (d + 1) w x = some (pA w 36 (fil (aI w 36) 0 8 x)) :=
  fil_gen (fJ7_fill_53178_r36_5 N d) 36 8 (by omega) (fun _ _ _ _ _ => rfl) N 0 w x (by omega) (by omega)
theorem fill37 {N d : Nat} {w : Wd} {x : Int32} (hN : 2000000 ≤ N) : eJ7_fill_53178_r37 N (d + 1) w x = some (pA w 37 (fil (aI w 37) 0 8 x)) :=
  fil_gen (fJ7_fill_53178_r37_5 N d) 37 8 (by omega) (fun _ _ _ _ _ => rfl) N 0 w x (by omega) (by omega)
theorem fill30 {N d : Nat} {w : Wd} {x : Int32} (hN : 2000000 ≤ N) : eJ7_fill_53178_r30 N (d + 1) w x = some (pA w 30 (fil (aI w 30) 0 8 x)) :=
  fil_gen (fJ7_fill_53178_r30_5 N d) 30 8 (by omega) (fun _ _ _ _ _ => rfl) N 0 w x (by omega) (by omega)
theorem fill29 {N d : Nat} {w : Wd} {x : Int32} (hN : 2000000 ≤ N) : eJ7_fill_53178_r29 N (d + 1) w x = some (pA w 29 (fil (aI w 29) 0 4 x)) :=
  fil_gen (fJ7_fill_53178_r29_5 N d) 29 4 (by omega) (fun _ _ _ _ _ => rfl) N 0 w x (by omega) (by omega)
theorem fill33 {N d : Nat} {w : Wd} {x : Int32} (hN : 2000000 ≤ N) : eJ7_fill_53178_r33 N (d + 1) w x = some (pA w 33 (fil (aI w 33) 0 158 x)) :=
  fil_gen (fJ7_fill_53178_r33_5 N d) 33 158 (by omega) (fun _ _ _ _ _ => rfl) N 0 w x (by omega) (by omega)
/-! numbers in a range, told by long numbers -/
theorem in_lit {N d : Nat} {w : Wd} {x lo hi : Int32} {l2 h2 : Int64} (e1 : lo.toInt64 = l2) (e2 : hi.toInt64 = h2) : eX11_in N (d + 1) w x.toInt64 l2 h2 = some (w, if x < lo then 0 else if hi < x then 0 else 1) := by
  rw [in_eq, ← e1, ← e2]
  simp only [i2l_lt]
theorem rng {x : Int32} {lo hi : Nat} (h : hi < 2 ^ 30) (h1 : ¬ x < nI lo) (h2 : ¬ nI hi < x) (hl : lo ≤ hi) : ∃ i, lo ≤ i ∧ i ≤ hi ∧ x = nI i := by
  rw [Int32.lt_iff_toInt_lt, nI_toInt (by omega)] at h1 h2
  have h0 : ¬ x < 0 := by
    rw [Int32.lt_iff_toInt_lt]
    have : (0 : Int32).toInt = 0 := by decide
    omega
  obtain ⟨j, hj, e⟩ := nI_of h0
  rw [e, nI_toInt hj] at h1 h2
  exact ⟨j, by omega, by omega, e⟩
theorem iw_k (n : Nat) {N d : Nat} {w : Wd} {x y : Int32} (e : y = nI n) : eX10_isWithin N (d + 1) w x y = some (w, if x < 0 then 0 else if nI n ≤ x then 0 else 1) := by rw [iw_eq, e]
theorem in_k (n : Nat) {N d : Nat} {w : Wd} {x : Int32} {y : Int64} (hn : n < 2 ^ 30) (e : y = (nI n - 1).toInt64) : eX11_in N (d + 1) w x.toInt64 0 y = some (w, if x < 0 then 0 else if nI n ≤ x then 0 else 1) := by rw [e, in_n hn]
/-! a term made, or found -/
def fdB (B : Bk) (h a b : Nat) : Nat → Nat
  | 0 => 2000
  | m + 1 => if hB B m = h ∧ aB B m = a ∧ bB B m = b then m else fdB B h a b m
theorem fdB_in {B : Bk} {h a b m : Nat} (q : fdB B h a b m < 2000) : fdB B h a b m < m ∧ hB B (fdB B h a b m) = h ∧ aB B (fdB B h a b m) = a ∧ bB B (fdB B h a b m) = b := by
  induction m with
  | zero => exact absurd q (by show ¬ 2000 < 2000; omega)
  | succ m ih =>
    unfold fdB at q ⊢
    split
    · rename_i e
      exact ⟨by omega, e⟩
    · rename_i e
      rw [if_neg e] at q
      have := ih q
      exact ⟨by omega, this.2⟩
theorem fdB_out {B : Bk} {h a b m : Nat} (hm : m ≤ 2000) (q : ¬ fdB B h a b m < 2000) : ∀ t, t < m → ¬ (hB B t = h ∧ aB B t = a ∧ bB B t = b) := by
  induction m with
  | zero => intro t ht; omega
  | succ m ih =>
    unfold fdB at q
    split at q
    · omega
    · rename_i e
      intro t ht
      by_cases e2 : t = m
      · rw [e2]; exact e
      · exact ih (by omega) q t (by omega)
def mkB (B : Bk) (h a b : Nat) : Option (Bk × Nat) := if fdB B h a b (nB B) < 2000 then some (B, fdB B h a b (nB B)) else if nB B < 1000 then some (pushB B h a b, nB B) else none
theorem mkB_ok {B B2 : Bk} (G : GB B) {h a b t : Nat} (hv : VN B h a b) (q : mkB B h a b = some (B2, t)) : GB B2 ∧ Ext B B2 ∧ t < nB B2 ∧ hB B2 t = h ∧ aB B2 t = a ∧ bB B2 t = b := by
  have g1 := G.1
  unfold mkB at q
  split at q
  · rename_i e
    have f := fdB_in e
    cases q
    exact ⟨G, Ext.rf _, f.1, f.2⟩
  · rename_i e
    split at q
    · rename_i e2
      cases q
      exact ⟨G.push hv (fdB_out (by omega) e) e2, Ext.push, Nat.lt_succ_self _, fu_s, fu_s, fu_s⟩
    · cases q
theorem cMk {B : Bk} {w : Wd} (G : GB B) (R : RB B w) {N d h a b : Nat} (hN : 2000000 ≤ N) (hv : VN B h a b) :
    (∀ B2 t, mkB B h a b = some (B2, t) → ∃ w2, eX8_make N (d + 2) w (nI h) (eN a) (eN b) = some (w2, nI t) ∧ RB B2 w2 ∧ FrB w w2) ∧
    (mkB B h a b = none → eX8_make N (d + 2) w (nI h) (eN a) (eN b) = some (w, -4)) := by
  have g1 := G.1
  obtain ⟨m1, m2, m3⟩ := cMake (d := d) G R hN hv
  unfold mkB
  split
  · rename_i e
    have f := fdB_in e
    refine ⟨fun B2 t q => ?_, fun q => by cases q⟩
    cases q
    exact ⟨w, m1 _ f.1 f.2.1 f.2.2.1 f.2.2.2, R, FrB.rf w⟩
  · rename_i e
    have hn := fdB_out (by omega) e
    split
    · rename_i e2
      refine ⟨fun B2 t q => ?_, fun q => by cases q⟩
      cases q
      exact m2 hn e2
    · exact ⟨fun B2 t q => (by cases q), fun _ => m3 hn (by omega)⟩
theorem mMk {B : Bk} {w : Wd} (G : GB B) (R : RM B w) {N d h a b : Nat} {x2 x3 : Int32} (hN : 2000000 ≤ N) (hv : VN B h a b) (hx2 : 1 ≤ arB B h → x2 = eN a) (hx3 : 2 ≤ arB B h → x3 = eN b) :
    (∀ B2 t, mkB B h a b = some (B2, t) → ∃ w2, eX11_make N (d + 2) w (sg h) x2 x3 = some (w2, nI t) ∧ RM B2 w2 ∧ FrM w w2) ∧
    (mkB B h a b = none → eX11_make N (d + 2) w (sg h) x2 x3 = some (pI w 4 1, -1)) := by
  have g1 := G.1
  obtain ⟨m1, m2, m3⟩ := mMake (d := d) G R hN hv hx2 hx3
  unfold mkB
  split
  · rename_i e
    have f := fdB_in e
    refine ⟨fun B2 t q => ?_, fun q => by cases q⟩
    cases q
    exact ⟨w, m1 _ f.1 f.2.1 f.2.2.1 f.2.2.2, R, FrM.rf w⟩
  · rename_i e
    have hn := fdB_out (by omega) e
    split
    · rename_i e2
      refine ⟨fun B2 t q => ?_, fun q => by cases q⟩
      cases q
      exact m2 hn e2
    · exact ⟨fun B2 t q => (by cases q), fun _ => m3 hn (by omega)⟩
/-! two calls that change nothing -/
theorem two_th {A : Type} {t : Nat} {wc wm : Wd} {x y : Option (Wd × A)} {r : A} (hx : x = some (wc, r)) (hy : y = some (pI wm 0 0, r)) (h : II t wc wm) : ∃ wc2 wm2 r, x = some (wc2, r) ∧ y = some (wm2, r) ∧ II (t + 1) wc2 wm2 := ⟨wc, pI wm 0 0, r, hx, hy, h.up.th⟩
/-! made -/
theorem pI_pI (w : Wd) (k : Nat) (x y : Int32) : pI (pI w k x) k y = pI w k y := by
  unfold pI
  refine congrArg (fun z => (z, w.2)) (funext fun j => ?_)
  show (if j = k then y else if j = k then x else w.1 j) = _
  split <;> rfl
theorem pI_eta (w : Wd) (k : Nat) : pI w k (sI w k) = w := by
  obtain ⟨a, b⟩ := w
  unfold pI sI
  refine congrArg (fun z => (z, b)) (funext fun j => ?_)
  show (if j = k then a k else a j) = a j
  split
  · rename_i q; rw [q]
  · rfl
theorem mMade {B : Bk} {w : Wd} (G : GB B) (R : RM B w) {N d h a b : Nat} {x2 x3 : Int32} (hN : 2000000 ≤ N) (hv : VN B h a b) (hx2 : 1 ≤ arB B h → x2 = eN a) (hx3 : 2 ≤ arB B h → x3 = eN b) :
    (∀ B2 t, mkB B h a b = some (B2, t) → ∃ w2, eX11_made N (d + 3) w (sg h) x2 x3 = some (w2, nI t) ∧ RM B2 w2 ∧ FrM w w2) ∧
    (mkB B h a b = none → eX11_made N (d + 3) w (sg h) x2 x3 = some (w, -4)) := by
  obtain ⟨m1, m2⟩ := mMk (d := d) G R hN hv hx2 hx3
  have key : eX11_made N (d + 3) w (sg h) x2 x3 = bX11_made_0 N (d + 2) w (sg h) x2 x3 := rfl
  rw [key]
  unfold bX11_made_0 bX11_made_29
  refine ⟨fun B2 t q => ?_, fun q => ?_⟩
  · obtain ⟨w2, e1, e2, e3⟩ := m1 B2 t q
    rw [e1, cl_s, if_pos e2.2.2.1]
    exact ⟨w2, rfl, e2, e3⟩
  · rw [m2 q, cl_s]
    have hz : ¬ sI (pI w 4 1) 4 = 0 := by rw [sI_pI, if_pos rfl]; decide
    rw [if_neg hz]
    have e : eX11_refuse N (d + 2) (pI w 4 1) (sI (pI w 4 1) 2) = some (pI (pI (pI w 4 1) 4 0) 2 (sI w 2), -4) := rfl
    have e2 : pI (pI (pI w 4 1) 4 0) 2 (sI w 2) = w := by
      rw [pI_pI]
      have : pI w 4 0 = w := by
        have := pI_eta w 4
        rw [R.2.2.1] at this
        exact this
      rw [this, pI_eta]
    rw [e, cl_s, e2]
theorem op_mk {t : Nat} {wc wm : Wd} {B : Bk} {R : Ru} (G : GB B) (gr : GR B R) (rb : RB B wc) (rm : RM B wm) (rc : RRc R wc) (rr : RRm R wm) (ru : RU wc wm) (rp : RP B wc wm) (rt : RT B wc wm) (rs : RS t wc) {N dc dm h a b : Nat} {x2 x3 : Int32} (hN : 2000000 ≤ N) (hv : VN B h a b) (hx2 : 1 ≤ arB B h → x2 = eN a) (hx3 : 2 ≤ arB B h → x3 = eN b) :
    ∃ c2 m2 r, eX8_make N (dc + 2) wc (nI h) (eN a) (eN b) = some (c2, r) ∧ eX11_made N (dm + 3) wm (sg h) x2 x3 = some (m2, r) ∧ II (t + 1) c2 m2 := by
  obtain ⟨a1, a2⟩ := cMk (d := dc) G rb hN hv
  obtain ⟨b1, b2⟩ := mMade (d := dm) G rm hN hv hx2 hx3
  cases q : mkB B h a b with
  | none => exact ⟨wc, wm, -4, a2 q, b2 q, B, R, G, gr, rb, rm, rc, rr, ru, rp, rt, rs.up⟩
  | some z =>
    obtain ⟨B2, k⟩ := z
    obtain ⟨w2, e1, e2, e3⟩ := a1 B2 k q
    obtain ⟨w3, f1, f2, f3⟩ := b1 B2 k q
    have g := mkB_ok G hv q
    exact ⟨w2, w3, nI k, e1, f1, II.bank ⟨gr, rc, rr, ru, rp, rt, rs⟩ g.2.1 g.1 e2 f2 e3 f3⟩
theorem op_variable {N d : Nat} (hN : 2000000 ≤ N) : Op_variable N (d + 5) II := by
  intro t wc wm x _ h
  obtain ⟨B, R, G, gr, rb, rm, rc, rr, ru, rp, rt, rs⟩ := id h
  have key : eX10_variable N (d + 5) wc x = bX10_variable_0 N (d + 4) wc x := rfl
  have key2 : eX11_variable N (d + 5) wm x = bX11_variable_0 N (d + 4) wm x := rfl
  rw [key, key2]
  unfold bX10_variable_0 bX11_variable_0 bX10_variable_27 bX11_variable_31
  simp only [c_pi]
  rw [iw_k 8 (y := 8) rfl, cl_s, in_k 8 (y := 7) (by omega) (by decide), cl_s]
  rcases iw_cases (n := 8) (by omega) x with ⟨i, hi, e, q⟩ | ⟨_, q⟩
  · rw [q, if_neg i10, if_neg i10, e]
    have hv : VN B (10 + i) 2000 2000 := by
      have h4 := G.2.2.2.1 (10 + i) (by omega)
      exact ⟨Or.inr (by omega), by rw [h4.1]; rfl, by rw [h4.1]; rfl⟩
    have hs : (-1 : Int32) - nI i = sg (10 + i) := by
      have := (sg_all (10 + i) (by omega)).2.2.2.2 i hi
      exact (this.mpr rfl).symm
    obtain ⟨c2, m2, r, e1, e2, e3⟩ := op_mk (dc := d + 2) (dm := d + 1) (x2 := -1) (x3 := -1) G gr rb (RM.th (x := 0) rm) rc rr ru rp rt rs hN hv (fun _ => rfl) (fun _ => rfl)
    rw [show (10 : Int32) + nI i = nI (10 + i) from nI_add 10 i, hs]
    rw [eN_no] at e1
    rw [e1, cl_s]
    exact ⟨c2, m2, r, rfl, by rw [e2, cl_s], e3⟩
  · rw [q, if_pos i00, if_pos i00]
    exact two_th rfl rfl h
