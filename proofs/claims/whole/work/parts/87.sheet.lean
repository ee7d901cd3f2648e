/-! how many signs stand in a term -/
def csF (B : Bk) : Nat → Nat → Nat
  | 0 => fun _ => 0
  | f + 1 => fun t => if hB B t < 10 then 1 + (if 1 ≤ npB B t then csF B f (aB B t) else 0) + (if 2 ≤ npB B t then csF B f (bB B t) else 0) else 0
def cs (B : Bk) (t : Nat) : Nat := csF B (t + 1) t
theorem csF_st {B : Bk} (G : GB B) : ∀ k f g t, t < k → t < f → t < g → t < nB B → csF B f t = csF B g t := by
  intro k
  induction k with
  | zero => intro f g t h; omega
  | succ k ih =>
    intro f g t h hf hg ht
    obtain ⟨f, rfl⟩ : ∃ f2, f = f2 + 1 := ⟨f - 1, by omega⟩
    obtain ⟨g, rfl⟩ : ∃ g2, g = g2 + 1 := ⟨g - 1, by omega⟩
    unfold csF
    have ha : (if 1 ≤ npB B t then csF B f (aB B t) else 0) = (if 1 ≤ npB B t then csF B g (aB B t) else 0) := by
      by_cases q : 1 ≤ npB B t
      · have := (G.np ht).2.2.1 q
        rw [if_pos q, if_pos q, ih f g _ (by omega) (by omega) (by omega) (by omega)]
      · rw [if_neg q, if_neg q]
    have hb : (if 2 ≤ npB B t then csF B f (bB B t) else 0) = (if 2 ≤ npB B t then csF B g (bB B t) else 0) := by
      by_cases q : 2 ≤ npB B t
      · have := (G.np ht).2.2.2.1 q
        rw [if_pos q, if_pos q, ih f g _ (by omega) (by omega) (by omega) (by omega)]
      · rw [if_neg q, if_neg q]
    rw [ha, hb]
theorem cs_eq {B : Bk} (G : GB B) {t : Nat} (ht : t < nB B) : cs B t = if hB B t < 10 then 1 + (if 1 ≤ npB B t then cs B (aB B t) else 0) + (if 2 ≤ npB B t then cs B (bB B t) else 0) else 0 := by
  have e : cs B t = if hB B t < 10 then 1 + (if 1 ≤ npB B t then csF B t (aB B t) else 0) + (if 2 ≤ npB B t then csF B t (bB B t) else 0) else 0 := rfl
  rw [e]
  have ha : (if 1 ≤ npB B t then csF B t (aB B t) else 0) = (if 1 ≤ npB B t then cs B (aB B t) else 0) := by
    by_cases q : 1 ≤ npB B t
    · have := (G.np ht).2.2.1 q
      rw [if_pos q, if_pos q]
      exact csF_st G (aB B t + 1) _ _ _ (by omega) (by omega) (by omega) (by omega)
    · rw [if_neg q, if_neg q]
  have hb : (if 2 ≤ npB B t then csF B t (bB B t) else 0) = (if 2 ≤ npB B t then cs B (bB B t) else 0) := by
    by_cases q : 2 ≤ npB B t
    · have := (G.np ht).2.2.2.1 q
      rw [if_pos q, if_pos q]
      exact csF_st G (bB B t + 1) _ _ _ (by omega) (by omega) (by omega) (by omega)
    · rw [if_neg q, if_neg q]
  rw [ha, hb]
theorem cs_le {B : Bk} (G : GB B) : ∀ k t, t < k → t < nB B → szB B t ≤ 30 → cs B t ≤ szB B t := by
  intro k
  induction k with
  | zero => intro t h; omega
  | succ k ih =>
    intro t h ht hs
    rw [cs_eq G ht]
    by_cases q1 : hB B t < 10
    · rw [if_pos q1, sz_eq G ht hs]
      unfold two
      by_cases n1 : 1 ≤ npB B t
      · have la := (G.np ht).2.2.1 n1
        have sa := sz_a G ht hs n1
        have ia := ih (aB B t) (by omega) sa.1 (by omega)
        rw [if_pos n1, if_pos n1]
        by_cases n2 : 2 ≤ npB B t
        · have lb := (G.np ht).2.2.2.1 n2
          have sb := sz_b G ht hs n2
          have ib := ih (bB B t) (by omega) sb.1 (by omega)
          rw [if_pos n2, if_pos n2]
          omega
        · rw [if_neg n2, if_neg n2]; omega
      · have n2 : ¬ 2 ≤ npB B t := by omega
        rw [if_neg n1, if_neg n1, if_neg n2, if_neg n2]
        omega
    · rw [if_neg q1]; omega
/-! the sheet -/
abbrev Sht : Type := (Nat → Nat) × (Nat → Nat) × (Nat → Nat) × (Nat → Nat)
def tmS (s : Sht) : Nat → Nat := s.1
def msS (s : Sht) : Nat → Nat := s.2.1
def f1S (s : Sht) : Nat → Nat := s.2.2.1
def f2S (s : Sht) : Nat → Nat := s.2.2.2
/-- the node of a term -/
def Chd (B : Bk) (s : Sht) (lo hi y t m : Nat) : Prop := (10 ≤ hB B t ∧ y = hB B t - 10 + m) ∨ (hB B t < 10 ∧ lo ≤ y ∧ y < hi ∧ tmS s y = t ∧ msS s y = m)
def NdW (B : Bk) (s : Sht) (lo hi : Nat) (w : Wd) (x : Nat) : Prop :=
  VT B (tmS s x) (msS s x) ∧ hB B (tmS s x) < 10 ∧ (1 ≤ npB B (tmS s x) → Chd B s lo hi (f1S s x) (aB B (tmS s x)) (msS s x)) ∧ (¬ 1 ≤ npB B (tmS s x) → f1S s x = 2000) ∧
  (2 ≤ npB B (tmS s x) → Chd B s lo hi (f2S s x) (bB B (tmS s x)) (msS s x)) ∧ (¬ 2 ≤ npB B (tmS s x) → f2S s x = 2000) ∧
  aI w 50 x = nI (hB B (tmS s x)) ∧ aI w 51 x = eN (f1S s x) ∧ aI w 52 x = eN (f2S s x) ∧
  ∃ M, M < 256 ∧ aI w 56 x = nI M ∧ ∀ u, u < 8 → M.testBit u = decide (msS s x ≤ u ∧ 0 < ctB B (tmS s x) (u - msS s x))
/-- places, outer nodes: a tree laid in order -/
def PL (B : Bk) (s : Sht) (w : Wd) : Nat → Nat → Nat → Int64 → Prop
  | 0 => fun _ _ _ => True
  | k + 1 => fun x t p => hB B t < 10 → (aL w 55 x = p ∧ tmS s x = t ∧
      (1 ≤ npB B t → hB B (aB B t) < 10 → f1S s x = x + 1 ∧ aI w 53 (x + 1) = nI x ∧ aI w 54 (x + 1) = 0 ∧ PL B s w k (x + 1) (aB B t) (blw p 0)) ∧
      (2 ≤ npB B t → hB B (bB B t) < 10 → f2S s x = x + 1 + cs B (aB B t) ∧ aI w 53 (x + 1 + cs B (aB B t)) = nI x ∧ aI w 54 (x + 1 + cs B (aB B t)) = 1 ∧ PL B s w k (x + 1 + cs B (aB B t)) (bB B t) (blw p 1)))
/-- both agree on a stretch of nodes -/
def Agr (lo hi : Nat) (s s2 : Sht) (w w2 : Wd) : Prop := ∀ x, lo ≤ x → x < hi → tmS s2 x = tmS s x ∧ msS s2 x = msS s x ∧ f1S s2 x = f1S s x ∧ f2S s2 x = f2S s x ∧ aI w2 50 x = aI w 50 x ∧ aI w2 51 x = aI w 51 x ∧ aI w2 52 x = aI w 52 x ∧ aI w2 53 x = aI w 53 x ∧ aI w2 54 x = aI w 54 x ∧ aL w2 55 x = aL w 55 x ∧ aI w2 56 x = aI w 56 x
theorem Agr.rf {lo hi : Nat} (s : Sht) (w : Wd) : Agr lo hi s s w w := fun _ _ _ => ⟨rfl, rfl, rfl, rfl, rfl, rfl, rfl, rfl, rfl, rfl, rfl⟩
theorem Agr.tr {lo hi : Nat} {s s2 s3 : Sht} {w w2 w3 : Wd} (h : Agr lo hi s s2 w w2) (g : Agr lo hi s2 s3 w2 w3) : Agr lo hi s s3 w w3 := fun x h1 h2 => by
  obtain ⟨a1, a2, a3, a4, a5, a6, a7, a8, a9, a10, a11⟩ := h x h1 h2
  obtain ⟨b1, b2, b3, b4, b5, b6, b7, b8, b9, b10, b11⟩ := g x h1 h2
  exact ⟨b1.trans a1, b2.trans a2, b3.trans a3, b4.trans a4, b5.trans a5, b6.trans a6, b7.trans a7, b8.trans a8, b9.trans a9, b10.trans a10, b11.trans a11⟩
theorem Agr.mn {lo hi lo2 hi2 : Nat} {s s2 : Sht} {w w2 : Wd} (h : Agr lo hi s s2 w w2) (h1 : lo ≤ lo2) (h2 : hi2 ≤ hi) : Agr lo2 hi2 s s2 w w2 := fun x a b => h x (by omega) (by omega)
theorem Chd.agr {B : Bk} {s s2 : Sht} {lo hi y t m : Nat} {w w2 : Wd} (h : Chd B s lo hi y t m) (a : Agr lo hi s s2 w w2) : Chd B s2 lo hi y t m := by
  rcases h with z | ⟨z1, z2, z3, z4, z5⟩
  · exact Or.inl z
  · exact Or.inr ⟨z1, z2, z3, by rw [(a y z2 z3).1]; exact z4, by rw [(a y z2 z3).2.1]; exact z5⟩
theorem Chd.mn {B : Bk} {s : Sht} {lo hi lo2 hi2 y t m : Nat} (h : Chd B s lo hi y t m) (h1 : lo2 ≤ lo) (h2 : hi ≤ hi2) : Chd B s lo2 hi2 y t m := by
  rcases h with z | ⟨z1, z2, z3, z4, z5⟩
  · exact Or.inl z
  · exact Or.inr ⟨z1, by omega, by omega, z4, z5⟩
theorem NdW.agr {B : Bk} {s s2 : Sht} {lo hi x : Nat} {w w2 : Wd} (h : NdW B s lo hi w x) (hx : lo ≤ x ∧ x < hi) (a : Agr lo hi s s2 w w2) : NdW B s2 lo hi w2 x := by
  obtain ⟨b1, b2, b3, b4, b5, b6, b7, b8, b9, b10, b11⟩ := a x hx.1 hx.2
  obtain ⟨c1, c2, c3, c4, c5, c6, c7, c8, c9, M, m1, m2, m3⟩ := h
  unfold NdW
  rw [b1, b2, b3, b4, b5, b6, b7, b11]
  exact ⟨c1, c2, fun z => (c3 z).agr a, c4, fun z => (c5 z).agr a, c6, c7, c8, c9, M, m1, m2, m3⟩
theorem NdW.mn {B : Bk} {s : Sht} {lo hi lo2 hi2 x : Nat} {w : Wd} (h : NdW B s lo hi w x) (h1 : lo2 ≤ lo) (h2 : hi ≤ hi2) : NdW B s lo2 hi2 w x := by
  obtain ⟨c1, c2, c3, c4, c5, c6, c7⟩ := h
  exact ⟨c1, c2, fun z => (c3 z).mn h1 h2, c4, fun z => (c5 z).mn h1 h2, c6, c7⟩
theorem PL.agr {B : Bk} (G : GB B) {s s2 : Sht} {w w2 : Wd} {lo hi : Nat} (a : Agr lo hi s s2 w w2) : ∀ k x t p, t < nB B → lo ≤ x → x + cs B t ≤ hi → PL B s w k x t p → PL B s2 w2 k x t p := by
  intro k
  induction k with
  | zero => intro x t p _ _ _ _; trivial
  | succ k ih =>
    intro x t p ht hx hh h hs
    obtain ⟨h1, h2, h3, h4⟩ := h hs
    have ce := cs_eq G ht
    rw [if_pos hs] at ce
    obtain ⟨b1, b2, b3, b4, b5, b6, b7, b8, b9, b10, b11⟩ := a x hx (by omega)
    refine ⟨by rw [b10]; exact h1, by rw [b1]; exact h2, fun n1 sa => ?_, fun n2 sb => ?_⟩
    · have la := (G.np ht).2.2.1 n1
      have ca := cs_eq G (t := aB B t) (by omega)
      rw [if_pos sa] at ca
      rw [if_pos n1] at ce
      obtain ⟨q1, q2, q3, q4⟩ := h3 n1 sa
      obtain ⟨d1, d2, d3, d4, d5, d6, d7, d8, d9, d10, d11⟩ := a (x + 1) (by omega) (by omega)
      exact ⟨by rw [b3]; exact q1, by rw [d8]; exact q2, by rw [d9]; exact q3, ih _ _ _ (by omega) (by omega) (by omega) q4⟩
    · have lb := (G.np ht).2.2.2.1 n2
      have cb := cs_eq G (t := bB B t) (by omega)
      rw [if_pos sb] at cb
      rw [if_pos (by omega), if_pos n2] at ce
      obtain ⟨q1, q2, q3, q4⟩ := h4 n2 sb
      obtain ⟨d1, d2, d3, d4, d5, d6, d7, d8, d9, d10, d11⟩ := a (x + 1 + cs B (aB B t)) (by omega) (by omega)
      exact ⟨by rw [b4]; exact q1, by rw [d8]; exact q2, by rw [d9]; exact q3, ih _ _ _ (by omega) (by omega) (by omega) q4⟩
abbrev laS : Nat → Bool := fun k => k == 19
abbrev laA : Nat → Bool := fun k => decide (49 < k) && decide (k < 57)
theorem mask16 : ∀ a, a < 256 → (a.testBit 4 || a.testBit 5 || a.testBit 6 || a.testBit 7) = false → a < 16 := by decide +kernel
theorem mask4a : ∀ a, a < 16 → (nI a <<< (nI 4 &&& 31) = nI (a * 16) ∧ a * 16 < 256) := by decide +kernel
theorem mask4b : ∀ a, a < 16 → ((a * 16).testBit 0 = false ∧ (a * 16).testBit 1 = false ∧ (a * 16).testBit 2 = false ∧ (a * 16).testBit 3 = false) := by decide +kernel
theorem mask4c : ∀ a, a < 16 → ((a * 16).testBit 4 = a.testBit 0 ∧ (a * 16).testBit 5 = a.testBit 1 ∧ (a * 16).testBit 6 = a.testBit 2 ∧ (a * 16).testBit 7 = a.testBit 3) := by decide +kernel
theorem mask00 : ∀ a, a < 256 → nI a <<< (nI 0 &&& 31) = nI a := by decide +kernel
theorem maskm {B : Bk} {w : Wd} (R : RB B w) {t m : Nat} (hvt : VT B t m) : ∃ M, M < 256 ∧ aI w 19 t <<< (nI m &&& 31) = nI M ∧ ∀ u, u < 8 → M.testBit u = decide (m ≤ u ∧ 0 < ctB B t (u - m)) := by
  obtain ⟨M, m1, m2, m3⟩ := R.2.2.2.2.1 t hvt.1
  have z : ∀ v, 4 ≤ v → v < 8 → M.testBit v = false := fun v h4 h8 => by
    rw [m3 v h8, hvt.2.2.1 v h4 h8]; rfl
  rcases hvt.2.2.2 with q | q
  · refine ⟨M, m1, by rw [m2, q]; exact mask00 M m1, fun u hu => ?_⟩
    rw [m3 u hu, q]
    simp
  · have h16 := mask16 M m1 (by rw [z 4 (by omega) (by omega), z 5 (by omega) (by omega), z 6 (by omega) (by omega), z 7 (by omega) (by omega)]; rfl)
    obtain ⟨a1, a2⟩ := mask4a M h16
    obtain ⟨a3, a4, a5, a6⟩ := mask4b M h16
    obtain ⟨a7, a8, a9, a10⟩ := mask4c M h16
    refine ⟨M * 16, a2, by rw [m2, q]; exact a1, fun u hu => ?_⟩
    rw [q]
    have : u = 0 ∨ u = 1 ∨ u = 2 ∨ u = 3 ∨ u = 4 ∨ u = 5 ∨ u = 6 ∨ u = 7 := by omega
    rcases this with e | e | e | e | e | e | e | e <;> rw [e]
    · rw [a3]; simp
    · rw [a4]; simp
    · rw [a5]; simp
    · rw [a6]; simp
    · rw [a7, m3 0 (by omega)]; simp
    · rw [a8, m3 1 (by omega)]; simp
    · rw [a9, m3 2 (by omega)]; simp
    · rw [a10, m3 3 (by omega)]; simp
