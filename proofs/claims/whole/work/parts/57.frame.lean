/-! what a piece of work leaves as it was -/
def Fr (S A : Nat → Bool) (w w2 : Wd) : Prop := (∀ k, S k = false → sI w2 k = sI w k) ∧ (∀ k, A k = false → aI w2 k = aI w k ∧ aL w2 k = aL w k)
theorem Fr.rf {S A : Nat → Bool} (w : Wd) : Fr S A w w := ⟨fun _ _ => rfl, fun _ _ => ⟨rfl, rfl⟩⟩
theorem Fr.tr {S A : Nat → Bool} {w w2 w3 : Wd} (h : Fr S A w w2) (g : Fr S A w2 w3) : Fr S A w w3 := ⟨fun k hk => (g.1 k hk).trans (h.1 k hk), fun k hk => ⟨(g.2 k hk).1.trans (h.2 k hk).1, (g.2 k hk).2.trans (h.2 k hk).2⟩⟩
theorem Fr.mn {S A S2 A2 : Nat → Bool} {w w2 : Wd} (h : Fr S A w w2) (hS : ∀ k, S2 k = false → S k = false) (hA : ∀ k, A2 k = false → A k = false) : Fr S2 A2 w w2 := ⟨fun k hk => h.1 k (hS k hk), fun k hk => h.2 k (hA k hk)⟩
theorem Fr.pi {S A : Nat → Bool} {w w1 : Wd} (h : Fr S A w w1) {k : Nat} {x : Int32} (hk : S k = true) : Fr S A w (pI w1 k x) := h.tr ⟨fun j hj => (by rw [sI_pI, if_neg]; rintro rfl; rw [hk] at hj; cases hj), fun _ _ => ⟨rfl, rfl⟩⟩
theorem Fr.pa {S A : Nat → Bool} {w w1 : Wd} (h : Fr S A w w1) {k : Nat} {f : Nat → Int32} (hk : A k = true) : Fr S A w (pA w1 k f) := h.tr ⟨fun _ _ => rfl, fun j hj => ⟨(by rw [aI_pA, if_neg]; rintro rfl; rw [hk] at hj; cases hj), rfl⟩⟩
theorem Fr.pb {S A : Nat → Bool} {w w1 : Wd} (h : Fr S A w w1) {k : Nat} {f : Nat → Int64} (hk : A k = true) : Fr S A w (pB w1 k f) := h.tr ⟨fun _ _ => rfl, fun j hj => ⟨rfl, (by rw [aL_pB, if_neg]; rintro rfl; rw [hk] at hj; cases hj)⟩⟩
theorem Fr.pl {S A : Nat → Bool} {w w1 : Wd} (h : Fr S A w w1) {k : Nat} {x : Int64} : Fr S A w (pL w1 k x) := h.tr ⟨fun _ _ => rfl, fun _ _ => ⟨rfl, rfl⟩⟩
theorem RB.k {S A : Nat → Bool} {B : Bk} {w w2 : Wd} (h : RB B w) (f : Fr S A w w2) (s0 : S 0 = false := by rfl) (s1 : S 1 = false := by rfl) (hA : ∀ k, k < 22 → 12 ≤ k → A k = false := by decide) : RB B w2 := by
  obtain ⟨r1, r2, r3, r4, r5, r6, r7⟩ := h
  have a := fun k h1 h2 => f.2 k (hA k h1 h2)
  refine ⟨by rw [f.1 0 s0]; exact r1, by rw [f.1 1 s1]; exact r2, ?_, ?_, ?_, ?_, ?_⟩
  · rw [(a 12 (by omega) (by omega)).1, (a 13 (by omega) (by omega)).1]; exact r3
  · rw [(a 14 (by omega) (by omega)).1, (a 15 (by omega) (by omega)).1, (a 16 (by omega) (by omega)).1, (a 17 (by omega) (by omega)).2, (a 18 (by omega) (by omega)).2]; exact r4
  · rw [(a 19 (by omega) (by omega)).1]; exact r5
  · rw [(a 20 (by omega) (by omega)).1]; exact r6
  · rw [(a 21 (by omega) (by omega)).1]; exact r7
theorem RM.k {S A : Nat → Bool} {B : Bk} {w w2 : Wd} (h : RM B w) (f : Fr S A w w2) (s0 : S 1 = false := by rfl) (s1 : S 2 = false := by rfl) (s4 : S 4 = false := by rfl) (hA : ∀ k, k < 9 → A k = false := by decide) : RM B w2 := by
  obtain ⟨r1, r2, r3, r4, r5, r6⟩ := h
  have a := fun k h1 => f.2 k (hA k h1)
  refine ⟨by rw [f.1 1 s0]; exact r1, by rw [f.1 2 s1]; exact r2, by rw [f.1 4 s4]; exact r3, ?_, ?_, ?_⟩
  · rw [(a 1 (by omega)).1, (a 2 (by omega)).1]; exact r4
  · rw [(a 3 (by omega)).1, (a 4 (by omega)).1, (a 5 (by omega)).1, (a 6 (by omega)).2, (a 7 (by omega)).2]; exact r5
  · rw [(a 8 (by omega)).2]; exact r6
theorem RRc.k {S A : Nat → Bool} {R : Ru} {w w2 : Wd} (h : RRc R w) (f : Fr S A w w2) (s2 : S 2 = false := by rfl) (a1 : A 23 = false := by rfl) (a2 : A 24 = false := by rfl) (a3 : A 25 = false := by rfl) : RRc R w2 := ⟨by rw [f.1 2 s2]; exact h.1, by rw [(f.2 23 a1).1, (f.2 24 a2).1, (f.2 25 a3).1]; exact h.2⟩
theorem RRm.k {S A : Nat → Bool} {R : Ru} {w w2 : Wd} (h : RRm R w) (f : Fr S A w w2) (s2 : S 3 = false := by rfl) (a1 : A 9 = false := by rfl) (a2 : A 10 = false := by rfl) (a3 : A 11 = false := by rfl) : RRm R w2 := ⟨by rw [f.1 3 s2]; exact h.1, by rw [(f.2 9 a1).1, (f.2 10 a2).1, (f.2 11 a3).1]; exact h.2⟩
theorem RU.k {S A S2 A2 : Nat → Bool} {wc wm c2 m2 : Wd} (h : RU wc wm) (f : Fr S A wc c2) (g : Fr S2 A2 wm m2) (s1 : S 13 = false := by rfl) (a1 : A 41 = false := by rfl) (a2 : A 42 = false := by rfl) (s2 : S2 8 = false := by rfl) (a3 : A2 15 = false := by rfl) (a4 : A2 16 = false := by rfl) : RU c2 m2 := by
  obtain ⟨k, h1, h2, h3, h4⟩ := h
  exact ⟨k, h1, by rw [f.1 13 s1]; exact h2, by rw [g.1 8 s2]; exact h3, by rw [(f.2 41 a1).1, (f.2 42 a2).2, (g.2 15 a3).1, (g.2 16 a4).2]; exact h4⟩
theorem RP.k {B B2 : Bk} (en : nB B ≤ nB B2) {S A S2 A2 : Nat → Bool} {wc wm c2 m2 : Wd} (h : RP B wc wm) (f : Fr S A wc c2) (g : Fr S2 A2 wm m2) (s1 : S 15 = false := by rfl) (s2 : S 17 = false := by rfl) (s3 : S 18 = false := by rfl) (s4 : S2 13 = false := by rfl) (hA : ∀ k, k < 50 → 45 ≤ k → A k = false := by decide) (hA2 : ∀ k, k < 27 → 22 ≤ k → A2 k = false := by decide) : RP B2 c2 m2 := by
  obtain ⟨k, st, fs, h1, h2, h3, h4, h5, h6, h7⟩ := h
  have a := fun k h1 h2 => f.2 k (hA k h1 h2)
  have b := fun k h1 h2 => g.2 k (hA2 k h1 h2)
  refine ⟨k, st, fs, h1, h2, by rw [f.1 15 s1]; exact h3, by rw [f.1 17 s2]; exact h4, by rw [f.1 18 s3]; exact h5, by rw [g.1 13 s4]; exact h6, ?_⟩
  rw [(a 45 (by omega) (by omega)).1, (a 46 (by omega) (by omega)).1, (a 47 (by omega) (by omega)).2, (a 48 (by omega) (by omega)).1, (a 49 (by omega) (by omega)).1, (b 22 (by omega) (by omega)).1, (b 23 (by omega) (by omega)).1, (b 24 (by omega) (by omega)).2, (b 25 (by omega) (by omega)).1, (b 26 (by omega) (by omega)).1]
  intro i hi
  obtain ⟨q1, q2, q3, q4, q5, ⟨x, x1, x2⟩, ⟨y, y1, y2⟩⟩ := h7 i hi
  exact ⟨q1, q2, q3, q4, q5, ⟨x, Nat.lt_of_lt_of_le x1 en, x2⟩, ⟨y, Nat.lt_of_lt_of_le y1 en, y2⟩⟩
theorem RT.k {B B2 : Bk} (es : sB B2 = sB B) {S A S2 A2 : Nat → Bool} {wc wm c2 m2 : Wd} (h : RT B wc wm) (f : Fr S A wc c2) (g : Fr S2 A2 wm m2) (s1 : S 10 = false := by rfl) (s2 : S 11 = false := by rfl) (s3 : S2 15 = false := by rfl) (s4 : S2 16 = false := by rfl) (a1 : A 35 = false := by rfl) (a2 : A 36 = false := by rfl) (a3 : A 37 = false := by rfl) (a4 : A2 29 = false := by rfl) (a5 : A2 30 = false := by rfl) (a6 : A2 33 = false := by rfl) : RT B2 c2 m2 := by
  obtain ⟨n, h1, h2, h3, h4, h5, h6, h7⟩ := h
  refine ⟨n, h1, by rw [f.1 10 s1]; exact h2, by rw [g.1 15 s3]; exact h3, by rw [f.1 11 s2]; exact h4, by rw [f.1 11 s2, g.1 16 s4]; exact h5, ?_, ?_⟩
  · rw [f.1 11 s2, (f.2 37 a3).1, (g.2 33 a6).1]; exact h6
  · rw [(f.2 35 a1).1, (f.2 36 a2).1, (g.2 29 a4).1, (g.2 30 a5).1, es]; exact h7
theorem RS.k {S A : Nat → Bool} {t : Nat} {w w2 : Wd} (h : RS t w) (f : Fr S A w w2) (s : S 4 = false := by rfl) (a1 : A 26 = false := by rfl) (a2 : A 38 = false := by rfl) : RS t w2 := by
  obtain ⟨⟨st, h1, h2, h3⟩, h4⟩ := h
  exact ⟨⟨st, h1, by rw [f.1 4 s]; exact h2, by rw [(f.2 26 a1).1]; exact h3⟩, by rw [(f.2 38 a2).1]; exact h4⟩
/-! values -/
def vl (B : Bk) (tab hv : Nat → Nat) : Nat → Nat → Nat
  | 0 => fun _ => 0
  | f + 1 => fun t => if hB B t < 10 then tab (16 * hB B t + 4 * (if 1 ≤ npB B t then vl B tab hv f (aB B t) else 0) + (if 2 ≤ npB B t then vl B tab hv f (bB B t) else 0)) else hv (hB B t - 10)
def vlu (B : Bk) (tab hv : Nat → Nat) (t : Nat) : Nat := vl B tab hv (t + 1) t
theorem vl_st {B : Bk} (G : GB B) {tab hv : Nat → Nat} : ∀ f t, t < f → t < nB B → vl B tab hv f t = vlu B tab hv t := by
  have key : ∀ k f g t, t < k → t < f → t < g → t < nB B → vl B tab hv f t = vl B tab hv g t := by
    intro k
    induction k with
    | zero => intro f g t h; omega
    | succ k ih =>
      intro f g t h hf hg ht
      obtain ⟨f, rfl⟩ : ∃ f2, f = f2 + 1 := ⟨f - 1, by omega⟩
      obtain ⟨g, rfl⟩ : ∃ g2, g = g2 + 1 := ⟨g - 1, by omega⟩
      show (if hB B t < 10 then _ else _) = (if hB B t < 10 then _ else _)
      have ha : (if 1 ≤ npB B t then vl B tab hv f (aB B t) else 0) = (if 1 ≤ npB B t then vl B tab hv g (aB B t) else 0) := by
        by_cases q : 1 ≤ npB B t
        · have := (G.np ht).2.2.1 q
          rw [if_pos q, if_pos q, ih f g _ (by omega) (by omega) (by omega) (by omega)]
        · rw [if_neg q, if_neg q]
      have hb : (if 2 ≤ npB B t then vl B tab hv f (bB B t) else 0) = (if 2 ≤ npB B t then vl B tab hv g (bB B t) else 0) := by
        by_cases q : 2 ≤ npB B t
        · have := (G.np ht).2.2.2.1 q
          rw [if_pos q, if_pos q, ih f g _ (by omega) (by omega) (by omega) (by omega)]
        · rw [if_neg q, if_neg q]
      rw [ha, hb]
  intro f t h ht
  exact key (t + 1) f (t + 1) t (by omega) h (by omega) ht
theorem vlu_eq {B : Bk} (G : GB B) {tab hv : Nat → Nat} {t : Nat} (ht : t < nB B) : vlu B tab hv t = if hB B t < 10 then tab (16 * hB B t + 4 * (if 1 ≤ npB B t then vlu B tab hv (aB B t) else 0) + (if 2 ≤ npB B t then vlu B tab hv (bB B t) else 0)) else hv (hB B t - 10) := by
  have e : vlu B tab hv t = if hB B t < 10 then tab (16 * hB B t + 4 * (if 1 ≤ npB B t then vl B tab hv t (aB B t) else 0) + (if 2 ≤ npB B t then vl B tab hv t (bB B t) else 0)) else hv (hB B t - 10) := rfl
  rw [e]
  have ha : (if 1 ≤ npB B t then vl B tab hv t (aB B t) else 0) = (if 1 ≤ npB B t then vlu B tab hv (aB B t) else 0) := by
    by_cases q : 1 ≤ npB B t
    · have := (G.np ht).2.2.1 q
      rw [if_pos q, if_pos q, vl_st G _ _ (by omega) (by omega)]
    · rw [if_neg q, if_neg q]
  have hb : (if 2 ≤ npB B t then vl B tab hv t (bB B t) else 0) = (if 2 ≤ npB B t then vlu B tab hv (bB B t) else 0) := by
    by_cases q : 2 ≤ npB B t
    · have := (G.np ht).2.2.2.1 q
      rw [if_pos q, if_pos q, vl_st G _ _ (by omega) (by omega)]
    · rw [if_neg q, if_neg q]
  rw [ha, hb]
theorem vlu_le {B : Bk} (G : GB B) {tab hv : Nat → Nat} (h1 : ∀ j, j < 160 → tab j ≤ 3) : ∀ k t, t < k → t < nB B → (∀ v, v < 8 → 0 < ctB B t v → hv v ≤ 3) → vlu B tab hv t ≤ 3 ∧ (hB B t < 10 → 16 * hB B t + 4 * (if 1 ≤ npB B t then vlu B tab hv (aB B t) else 0) + (if 2 ≤ npB B t then vlu B tab hv (bB B t) else 0) < 160) := by
  intro k
  induction k with
  | zero => intro t h; omega
  | succ k ih =>
    intro t h ht hv3
    have hc : ∀ v, v < 8 → (1 ≤ npB B t → 0 < ctB B (aB B t) v → 0 < ctB B t v) ∧ (2 ≤ npB B t → 0 < ctB B (bB B t) v → 0 < ctB B t v) := fun v hv => by
      rw [mB_cap G ht hv]
      refine ⟨fun q q2 => capN_pos ?_, fun q q2 => capN_pos ?_⟩
      · unfold two; rw [if_pos q]; omega
      · unfold two; rw [if_pos q]; omega
    have ha : (if 1 ≤ npB B t then vlu B tab hv (aB B t) else 0) ≤ 3 := by
      by_cases q : 1 ≤ npB B t
      · have := (G.np ht).2.2.1 q
        rw [if_pos q]
        exact (ih _ (by omega) (by omega) (fun v hv q2 => hv3 v hv ((hc v hv).1 q q2))).1
      · rw [if_neg q]; omega
    have hb : (if 2 ≤ npB B t then vlu B tab hv (bB B t) else 0) ≤ 3 := by
      by_cases q : 2 ≤ npB B t
      · have := (G.np ht).2.2.2.1 q
        rw [if_pos q]
        exact (ih _ (by omega) (by omega) (fun v hv q2 => hv3 v hv ((hc v hv).2 q q2))).1
      · rw [if_neg q]; omega
    refine ⟨?_, fun q => by omega⟩
    rw [vlu_eq G ht]
    by_cases q : hB B t < 10
    · rw [if_pos q]
      exact h1 _ (by omega)
    · rw [if_neg q]
      have hal := G.a_le ht
      refine hv3 _ (by omega) ?_
      rw [mB_cap G ht (by omega)]
      refine capN_pos ?_
      rw [if_pos (by omega)]
      omega
theorem vlu_cg {B : Bk} (G : GB B) {tab hv hv2 : Nat → Nat} : ∀ k t, t < k → t < nB B → (∀ v, v < 8 → 0 < ctB B t v → hv v = hv2 v) → vlu B tab hv t = vlu B tab hv2 t := by
  intro k
  induction k with
  | zero => intro t h; omega
  | succ k ih =>
    intro t h ht hv3
    have hc : ∀ v, v < 8 → (1 ≤ npB B t → 0 < ctB B (aB B t) v → 0 < ctB B t v) ∧ (2 ≤ npB B t → 0 < ctB B (bB B t) v → 0 < ctB B t v) := fun v hv => by
      rw [mB_cap G ht hv]
      refine ⟨fun q q2 => capN_pos ?_, fun q q2 => capN_pos ?_⟩
      · unfold two; rw [if_pos q]; omega
      · unfold two; rw [if_pos q]; omega
    rw [vlu_eq G ht, vlu_eq G ht]
    have ha : (if 1 ≤ npB B t then vlu B tab hv (aB B t) else 0) = (if 1 ≤ npB B t then vlu B tab hv2 (aB B t) else 0) := by
      by_cases q : 1 ≤ npB B t
      · have := (G.np ht).2.2.1 q
        rw [if_pos q, if_pos q, ih _ (by omega) (by omega) (fun v hv q2 => hv3 v hv ((hc v hv).1 q q2))]
      · rw [if_neg q, if_neg q]
    have hb : (if 2 ≤ npB B t then vlu B tab hv (bB B t) else 0) = (if 2 ≤ npB B t then vlu B tab hv2 (bB B t) else 0) := by
      by_cases q : 2 ≤ npB B t
      · have := (G.np ht).2.2.2.1 q
        rw [if_pos q, if_pos q, ih _ (by omega) (by omega) (fun v hv q2 => hv3 v hv ((hc v hv).2 q q2))]
      · rw [if_neg q, if_neg q]
    rw [ha, hb]
    by_cases q : hB B t < 10
    · rw [if_pos q, if_pos q]
    · rw [if_neg q, if_neg q]
      have hal := G.a_le ht
      refine hv3 _ (by omega) ?_
      rw [mB_cap G ht (by omega)]
      refine capN_pos ?_
      rw [if_pos (by omega)]
      omega
