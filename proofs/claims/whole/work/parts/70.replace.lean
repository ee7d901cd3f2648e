theorem cSearch {B : Bk} {R : Ru} (G : GB B) (gr : GR B R) {N d ex way st t : Nat} {w : Wd} (hN : 2000000 ≤ N) (hex : ex < 16 ∨ ex = 2000) (hw : way = 0 ∨ way = 1) (hst : st < 1000) (ht : t < nB B) (rb : RB B w) (rc : RRc R w) (h5 : sI w 5 = eN ex) (ki : Kc B R ex st w) :
    (cnu B R ex t = true → ∃ w2, eX3_search N (d + 34) w (nI t) (nI way) = some (w2, nI (RA B R ex (ptu B R ex way t).2)) ∧ Stk w2 0 (ptu B R ex way t).1 (ptu B R ex way t).2 ∧ (∀ σ, mt B (R.2.1 (RA B R ex (ptu B R ex way t).2)) (ptu B R ex way t).2 = some σ → ∀ v, v < 4 → aI w2 29 v = eN (σ v)) ∧ Fr seS seA w w2 ∧ Kc B R ex st w2) ∧
    (cnu B R ex t = false → ∃ w2, eX3_search N (d + 34) w (nI t) (nI way) = some (w2, -1) ∧ Fr seS seA w w2 ∧ Kc B R ex st w2) := by
  have g1 := G.1
  have key : eX3_search N (d + 34) w (nI t) (nI way) = bX3_search_0 N (d + 33) w (nI t) (nI way) := rfl
  rw [key]
  unfold bX3_search_0 bX3_search_28
  simp only [c_pi]
  have stop : ∀ n w2 (lk : Nat), sI w2 3 = nI 0 → fX3_search_32 N (d + 33) (n + 1) w2 (nI way) (-1) (nI lk) = some (w2, -1) := by
    intro n w2 lk h3
    show bX3_search_32 N (d + 33) (fX3_search_32 N (d + 33) n) w2 (nI way) (-1) (nI lk) = _
    unfold bX3_search_32 bX3_search_102
    rw [h3, if_pos (show nI 0 ≤ (0 : Int32) by decide)]
    split <;> rfl
  have ki1 : Kc B R ex st (pI w 3 0) := ki
  have f1 : Fr seS seA w (pI w 3 0) := (Fr.rf w).pi rfl
  have h4 : sI (pI w 3 0) 4 = nI st := ki.1
  have h3 : sI (pI w 3 0) 3 = nI 0 := rfl
  rw [ld_n (by omega) (by omega), h4]
  obtain ⟨N2, hN2⟩ : ∃ N2, N = N2 + 1 := ⟨N - 1, by omega⟩
  by_cases hc : aI (pI w 3 0) 26 t = nI st
  · have cf : cnu B R ex t = false := (ki.2.2 t (by omega) hc).2
    rw [if_pos hc]
    refine ⟨fun z => absurd z (by rw [cf]; decide), fun _ => ⟨pI w 3 0, ?_, f1, ki1⟩⟩
    have : fX3_search_32 N (d + 33) (N2 + 1) (pI w 3 0) (nI way) (-1) 0 = _ := stop N2 (pI w 3 0) 0 h3
    rw [← hN2] at this
    exact this
  · obtain ⟨w4, e1, e2, e3⟩ := cEnter G gr (N := N) (d := d) (way := way) (D := 0) (p := t) (w := pI w 3 0) hN hex hw (rb.k f1) (rc.k f1) h5 h3 (by omega) ht
    rw [if_neg hc, e1, cl_s]
    have f3 : Fr seS seA w (pI (pA (pI w 3 0) 27 (upd (aI (pI w 3 0) 27) 0 (nI t))) 3 (nI (0 + 1))) := (f1.pa rfl).pi rfl
    have fr4 : Fr seS seA w w4 := f3.tr (e2.mn (fun _ _ => rfl) (fun k hk => by simp only [Bool.or_eq_false_iff] at hk; exact hk.2))
    have z26 : aI w4 26 = aI w 26 := by rw [(e2.2 26 rfl).1]; rfl
    have ki4 : Kc B R ex st w4 := ⟨by rw [e2.1 4 rfl]; exact ki.1, by rw [z26]; exact ki.2.1, by rw [z26]; exact ki.2.2⟩
    have cu4 : cu w4 ≤ 1000 := cntU_le 1000
    have z27 : aI w4 27 0 = nI t := by
      have : aI w4 27 = upd (aI (pI w 3 0) 27) 0 (nI t) := by rw [(e2.2 27 rfl).1]; rfl
      rw [this, upd_s]
    obtain ⟨r1, r2⟩ := cSrch G gr (N := N) (d := d) (ex := ex) (way := way) (st := st) hN hex hw hst 1000 t 0 N 0 w4 (by omega) ht (by omega) (rb.k fr4) (rc.k fr4) (by rw [fr4.1 5 rfl]; exact h5) ki4 (by rw [e2.1 3 rfl]; rfl) z27 (by rw [z26]; exact hc) e3 (by omega) (by omega)
    refine ⟨fun h => ?_, fun h => ?_⟩
    · obtain ⟨w2, q1, q2, q3, q4, q5, q6⟩ := r1 h
      exact ⟨w2, q1, q2, q3, fr4.tr q5, q6⟩
    · obtain ⟨w2, n2, lk2, q1, q2, q3, q4, q5, q6, q7, q8, q9, q10⟩ := r2 h
      obtain ⟨n3, rfl⟩ : ∃ n3, n2 = n3 + 1 := ⟨n2 - 1, by omega⟩
      refine ⟨w2, ?_, fr4.tr q4, q5⟩
      have q11 : fX3_search_32 N (d + 33) N w4 (nI way) (ru0 B R ex way t) 0 = _ := q1
      rw [q11, stop n3 w2 lk2 q2]
/-! places -/
def blw (p : Int64) (i : Int32) : Int64 := if lg_cmp p 0 = 0 then 0 else if lg_cmp (3 * p + i.toInt64) 100000000000000000 < 0 then 3 * p + i.toInt64 else 0
theorem cPlace {N d : Nat} {w : Wd} {p : Int64} {i : Int32} : eX10_placeOfPart N (d + 1) w p i = some (w, blw p i) := by
  show bX10_placeOfPart_0 N d w p i = _
  unfold bX10_placeOfPart_0 bX10_placeOfPart_23 bX10_placeOfPart_28 blw
  simp only [c_nm]
  split
  · rfl
  · split <;> rfl
theorem mBelow {N d : Nat} {w : Wd} {p : Int64} {i : Int32} : eX11_below N (d + 1) w p i = some (w, blw p i) := by
  show bX11_below_0 N d w p i = _
  unfold bX11_below_0 bX11_below_23 bX11_below_28 blw
  simp only [c_nm]
  split
  · rfl
  · split <;> rfl
def plc : Int64 → List (Nat × Nat) → Int64
  | p, [] => p
  | p, x :: l => plc (blw p (nI x.2)) l
/-! what stands round a place, made anew -/
def stepM (Bs : Bk) (x : Nat × Nat) (r : Option (Bk × Nat)) : Option (Bk × Nat) := match r with
  | none => none
  | some y => mkB y.1 (hB Bs x.1) (if x.2 = 0 then y.2 else aB Bs x.1) (if x.2 = 0 then bB Bs x.1 else y.2)
def reb (Bs : Bk) : List (Nat × Nat) → Option (Bk × Nat) → Option (Bk × Nat)
  | [], r => r
  | x :: l, r => stepM Bs x (reb Bs l r)
def rebN (Bs : Bk) (g : Nat → Nat × Nat) : Nat → Option (Bk × Nat) → Option (Bk × Nat)
  | 0, r => r
  | k + 1, r => rebN Bs g k (stepM Bs (g k) r)
theorem rebN_front {Bs : Bk} : ∀ k (g : Nat → Nat × Nat) r, rebN Bs g (k + 1) r = stepM Bs (g 0) (rebN Bs (fun j => g (j + 1)) k r) := by
  intro k
  induction k with
  | zero => intro g r; rfl
  | succ k ih =>
    intro g r
    show rebN Bs g (k + 1) (stepM Bs (g (k + 1)) r) = _
    rw [ih]
    rfl
theorem reb_N {Bs : Bk} : ∀ l (g : Nat → Nat × Nat) r, (∀ j, j < l.length → l[j]? = some (g j)) → reb Bs l r = rebN Bs g l.length r := by
  intro l
  induction l with
  | nil => intro g r _; rfl
  | cons x l ih =>
    intro g r h
    have h0 : x = g 0 := by
      have := h 0 (by simp)
      simpa using this
    show stepM Bs x (reb Bs l r) = rebN Bs g (l.length + 1) r
    rw [rebN_front, ih (fun j => g (j + 1)) r (fun j hj => by
      have := h (j + 1) (by simp; omega)
      simpa using this), h0]
/-- the parts named on a way are there -/
def LV (B : Bk) (l : List (Nat × Nat)) : Prop := ∀ x, x ∈ l → x.1 < nB B ∧ (x.2 = 0 ∧ 1 ≤ npB B x.1 ∨ x.2 = 1 ∧ 2 ≤ npB B x.1)
theorem ptu_ok {B : Bk} {R : Ru} (G : GB B) {ex way : Nat} : ∀ k t, t < k → t < nB B → cnu B R ex t = true → LV B (ptu B R ex way t).1 ∧ (ptu B R ex way t).2 < nB B ∧ RA B R ex (ptu B R ex way t).2 ≠ 2000 ∧ (ptu B R ex way t).1.length + (ptu B R ex way t).2 ≤ t := by
  intro k
  induction k with
  | zero => intro t h; omega
  | succ k ih =>
    intro t h ht hc
    have hcnu := cnu_iff G (R := R) (ex := ex) ht
    rw [ptu_eq G ht]
    by_cases q0 : way = 0 ∧ RA B R ex t ≠ 2000
    · rw [if_pos q0]
      exact ⟨fun x hx => (by cases hx), ht, q0.2, by show 0 + t ≤ t; omega⟩
    · rw [if_neg q0]
      by_cases q1 : 1 ≤ npB B t ∧ cnu B R ex (aB B t) = true
      · have la := (G.np ht).2.2.1 q1.1
        obtain ⟨i1, i2, i3, i4⟩ := ih (aB B t) (by omega) (by omega) q1.2
        rw [if_pos q1]
        refine ⟨fun x hx => ?_, i2, i3, ?_⟩
        · rcases List.mem_cons.mp hx with z | z
          · rw [z]; exact ⟨ht, Or.inl ⟨rfl, q1.1⟩⟩
          · exact i1 x z
        · show (ptu B R ex way (aB B t)).1.length + 1 + _ ≤ t
          omega
      · rw [if_neg q1]
        by_cases q2 : 2 ≤ npB B t ∧ cnu B R ex (bB B t) = true
        · have lb := (G.np ht).2.2.2.1 q2.1
          obtain ⟨i1, i2, i3, i4⟩ := ih (bB B t) (by omega) (by omega) q2.2
          rw [if_pos q2]
          refine ⟨fun x hx => ?_, i2, i3, ?_⟩
          · rcases List.mem_cons.mp hx with z | z
            · rw [z]; exact ⟨ht, Or.inr ⟨rfl, q2.1⟩⟩
            · exact i1 x z
          · show (ptu B R ex way (bB B t)).1.length + 1 + _ ≤ t
            omega
        · rw [if_neg q2]
          refine ⟨fun x hx => (by cases hx), ht, ?_, by show 0 + t ≤ t; omega⟩
          rcases hcnu.mp hc with z | z | z
          · exact z
          · exact absurd z q1
          · exact absurd z q2
/-- the node of a way at j -/
def ndW (l : List (Nat × Nat)) (u j : Nat) : Nat := ((l[j]?).map Prod.fst).getD u
/-- the way goes into the first part where it can -/
def Way (B : Bk) (l : List (Nat × Nat)) (u : Nat) : Prop := ∀ j x, l[j]? = some x → (x.2 = 0 ∧ aB B x.1 = ndW l u (j + 1)) ∨ (x.2 = 1 ∧ aB B x.1 ≠ ndW l u (j + 1))
theorem Way.cons {B : Bk} {l : List (Nat × Nat)} {u : Nat} {x : Nat × Nat} (h : Way B l u) (h0 : (x.2 = 0 ∧ aB B x.1 = ndW l u 0) ∨ (x.2 = 1 ∧ aB B x.1 ≠ ndW l u 0)) : Way B (x :: l) u := by
  intro j y hy
  have e : ndW (x :: l) u (j + 1) = ndW l u j := by unfold ndW; rw [List.getElem?_cons_succ]
  rw [e]
  cases j with
  | zero =>
    have : x = y := by simpa using hy
    rw [← this]
    exact h0
  | succ j => exact h j y (by simpa using hy)
theorem ptu_way {B : Bk} {R : Ru} (G : GB B) {ex way : Nat} : ∀ k t, t < k → t < nB B → cnu B R ex t = true → ndW (ptu B R ex way t).1 (ptu B R ex way t).2 0 = t ∧ Way B (ptu B R ex way t).1 (ptu B R ex way t).2 := by
  have nil : ∀ t, ndW [] t 0 = t ∧ Way B [] t := fun t => ⟨rfl, fun j x h => by simp at h⟩
  intro k
  induction k with
  | zero => intro t h; omega
  | succ k ih =>
    intro t h ht hc
    rw [ptu_eq G ht]
    by_cases q0 : way = 0 ∧ RA B R ex t ≠ 2000
    · rw [if_pos q0]
      exact nil t
    · rw [if_neg q0]
      by_cases q1 : 1 ≤ npB B t ∧ cnu B R ex (aB B t) = true
      · have la := (G.np ht).2.2.1 q1.1
        obtain ⟨i1, i2⟩ := ih (aB B t) (by omega) (by omega) q1.2
        rw [if_pos q1]
        exact ⟨rfl, i2.cons (Or.inl ⟨rfl, i1.symm⟩)⟩
      · rw [if_neg q1]
        by_cases q2 : 2 ≤ npB B t ∧ cnu B R ex (bB B t) = true
        · have lb := (G.np ht).2.2.2.1 q2.1
          obtain ⟨i1, i2⟩ := ih (bB B t) (by omega) (by omega) q2.2
          rw [if_pos q2]
          refine ⟨rfl, i2.cons (Or.inr ⟨rfl, fun z => ?_⟩)⟩
          have z2 : aB B t = bB B t := z.trans i1
          exact q1 ⟨by omega, by rw [z2]; exact q2.2⟩
        · rw [if_neg q2]
          exact nil t
theorem bd_bound {B : Bk} (G : GB B) : ∀ k σ p t σ2, p < nB B → t < nB B → bd B k σ p t = some σ2 → (∀ v, σ v ≠ 2000 → σ2 v = σ v) ∧ ∀ v, v < 8 → 0 < ctB B p v → σ2 v ≠ 2000 := by
  have g1 := G.1
  intro k
  induction k with
  | zero => intro σ p t σ2 _ _ h; cases h
  | succ k ih =>
    intro σ p t σ2 hp ht h
    have hal := G.a_le hp
    unfold bd at h
    by_cases q1 : hB B p < 10
    · rw [if_pos q1] at h
      by_cases q2 : hB B p = hB B t
      · rw [if_pos q2] at h
        have npe : npB B p = npB B t := by unfold npB; rw [q2]
        have cnt : ∀ v, v < 8 → 0 < ctB B p v → (1 ≤ npB B p ∧ 0 < ctB B (aB B p) v) ∨ (2 ≤ npB B p ∧ 0 < ctB B (bB B p) v) := fun v hv q => by
          rw [mB_cap G hp hv, if_neg (by omega)] at q
          apply Decidable.byContradiction
          intro z
          have : two (npB B p) (ctB B (aB B p) v) (ctB B (bB B p) v) = 0 := by
            unfold two
            by_cases n1 : 1 ≤ npB B p
            · rw [if_pos n1]
              by_cases n2 : 2 ≤ npB B p
              · rw [if_pos n2]; omega
              · rw [if_neg n2]; omega
            · rw [if_neg n1, if_neg (by omega)]
          rw [this] at q
          exact absurd q (by decide)
        by_cases q3 : 1 ≤ npB B p
        · have pa := (G.np hp).2.2.1 q3
          have ta := (G.np ht).2.2.1 (by omega)
          rw [if_pos q3] at h
          cases h1 : bd B k σ (aB B p) (aB B t) with
          | none => rw [h1] at h; cases h
          | some σ1 =>
            rw [h1] at h
            obtain ⟨i1, i2⟩ := ih σ _ _ σ1 (by omega) (by omega) h1
            by_cases q4 : 2 ≤ npB B p
            · have pb := (G.np hp).2.2.2.1 q4
              have tb := (G.np ht).2.2.2.1 (by omega)
              simp only [if_pos q4] at h
              obtain ⟨j1, j2⟩ := ih σ1 _ _ σ2 (by omega) (by omega) h
              refine ⟨fun v hv => ?_, fun v hv q => ?_⟩
              · have e1 := i1 v hv
                rw [j1 v (by rw [e1]; exact hv), e1]
              · rcases cnt v hv q with z | z
                · have e1 := i2 v hv z.2
                  rw [j1 v e1]; exact e1
                · exact j2 v hv z.2
            · simp only [if_neg q4] at h
              cases h
              refine ⟨i1, fun v hv q => ?_⟩
              rcases cnt v hv q with z | z
              · exact i2 v hv z.2
              · omega
        · rw [if_neg q3] at h
          cases h
          refine ⟨fun _ _ => rfl, fun v hv q => ?_⟩
          rcases cnt v hv q with z | z <;> omega
      · rw [if_neg q2] at h
        cases h
    · rw [if_neg q1] at h
      have own : ∀ v, v < 8 → 0 < ctB B p v → v = hB B p - 10 := fun v hv q => by
        apply Decidable.byContradiction
        intro z
        have n0 := (G.np hp).2.1 (by omega)
        rw [mB_cap G hp hv, if_neg (by omega)] at q
        have : two (npB B p) (ctB B (aB B p) v) (ctB B (bB B p) v) = 0 := by unfold two; rw [if_neg (by omega), if_neg (by omega)]
        rw [this] at q
        exact absurd q (by decide)
      by_cases q3 : σ (hB B p - 10) = 2000
      · rw [if_pos q3] at h
        cases h
        refine ⟨fun v hv => ?_, fun v hv q => ?_⟩
        · by_cases e : v = hB B p - 10
          · rw [e] at hv; exact absurd q3 hv
          · exact fu_n e
        · rw [own v hv q, fu_s]; omega
      · rw [if_neg q3] at h
        by_cases q4 : σ (hB B p - 10) = t
        · rw [if_pos q4] at h
          cases h
          refine ⟨fun _ _ => rfl, fun v hv q => ?_⟩
          rw [own v hv q]; exact q3
        · rw [if_neg q4] at h
          cases h
/-- a rule that fits: what its variables become -/
theorem mt_ok {B : Bk} {R : Ru} (G : GB B) (gr : GR B R) {r t : Nat} {σ : Nat → Nat} (hr : r < R.1) (ht : t < nB B) (h : mt B (R.2.1 r) t = some σ) : sOK B σ ∧ vOK B B σ (R.2.2.1 r) := by
  obtain ⟨a1, a2, a3, a4, a5, a6, a7⟩ := gr.2 r hr
  have h1 := bd_ok G 30 s0 _ _ σ a1 ht s0OK h
  have h2 := (bd_bound G 30 s0 _ _ σ a1 ht h).2
  refine ⟨h1, fun v hv q => ?_⟩
  have : 0 < ctB B (R.2.1 r) v := by
    apply Decidable.byContradiction
    intro z
    have := a7 v hv (by omega)
    omega
  exact (h1 v).resolve_right (h2 v hv this)
theorem RA_mt {B : Bk} {R : Ru} {ex t : Nat} (h : RA B R ex t ≠ 2000) : RA B R ex t < R.1 ∧ ∃ σ, mt B (R.2.1 (RA B R ex t)) t = some σ := by
  rcases RA_in B R ex t with z | ⟨z1, z2⟩
  · exact absurd z h
  · refine ⟨z1, ?_⟩
    unfold okR at z2
    rw [Bool.and_eq_true, Bool.and_eq_true] at z2
    exact Option.isSome_iff_exists.mp z2.2.2
