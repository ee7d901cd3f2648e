/-! the class gathers what is to be valued -/
abbrev gS : Nat → Bool := fun k => k == 12
abbrev gA : Nat → Bool := fun k => k == 38 || k == 39
/-- needed rows: falling, closed under parts -/
def Gt (B : Bk) (w : Wd) (m : Nat) (nd : Nat → Nat) : Prop :=
  sI w 12 = nI m ∧ m ≤ 1000 ∧ (∀ k, k < m → nd k < nB B ∧ aI w 39 k = nI (nd k)) ∧ (∀ i k, i < k → k < m → nd k < nd i) ∧
  (∀ k, k < m → (1 ≤ npB B (nd k) → ∃ i, i < m ∧ nd i = aB B (nd k)) ∧ (2 ≤ npB B (nd k) → ∃ i, i < m ∧ nd i = bB B (nd k)))
/-- while gathering: all from q on is done -/
def GI (B : Bk) (w : Wd) (s t top q m : Nat) (nd : Nat → Nat) : Prop :=
  sI w 12 = nI m ∧ m + q ≤ top ∧ (∀ j, j < 1000 → (aI w 38 j = 0 ∨ aI w 38 j = 1) ∧ (q ≤ j → aI w 38 j = 0)) ∧ (∀ k, k < m → q ≤ nd k ∧ nd k < nB B ∧ aI w 39 k = nI (nd k)) ∧ (∀ i k, i < k → k < m → nd k < nd i) ∧
  (∀ k, k < m → (1 ≤ npB B (nd k) → aI w 38 (aB B (nd k)) = 1 ∨ ∃ i, i < m ∧ nd i = aB B (nd k)) ∧ (2 ≤ npB B (nd k) → aI w 38 (bB B (nd k)) = 1 ∨ ∃ i, i < m ∧ nd i = bB B (nd k))) ∧
  (aI w 38 s = 1 ∨ ∃ i, i < m ∧ nd i = s) ∧ (aI w 38 t = 1 ∨ ∃ i, i < m ∧ nd i = t)
theorem cNeed {N d x : Nat} {w : Wd} (hx : x < 1000 ∨ x = 2000) : eX7_need N (d + 1) w (eN x) = some (if x = 2000 then w else pA w 38 (upd (aI w 38) x 1)) := by
  show bX7_need_0 N d w (eN x) = _
  unfold bX7_need_0 bX7_need_12
  by_cases q : x = 2000
  · rw [if_pos (by rw [q]; rfl), if_pos q]
  · rw [if_neg (eN_m1 (by omega)), eN_n (by omega), sz_n (by omega) (by omega), if_neg q]
    rfl
theorem cGatherL {B : Bk} (G : GB B) {N d s t top : Nat} (ht : top ≤ nB B) : ∀ n q w m nd, RB B w → q < n → GI B w s t top q m nd →
    ∃ w2 m2 nd2, fX7_gather_30 N (d + 1) n w (nI q - 1) = some w2 ∧ Fr gS gA w w2 ∧ GI B w2 s t top 0 m2 nd2 := by
  have g1 := G.1
  intro n
  induction n with
  | zero => intro q w m nd R h; omega
  | succ n ih =>
    intro q w m nd R hq hg
    have key : fX7_gather_30 N (d + 1) (n + 1) w (nI q - 1) = bX7_gather_30 N (d + 1) (fX7_gather_30 N (d + 1) n) w (nI q - 1) := rfl
    rw [key]
    unfold bX7_gather_30 bX7_gather_96
    simp only [c_nm, c_pi]
    cases q with
    | zero =>
      rw [if_pos (by decide)]
      exact ⟨w, m, nd, rfl, Fr.rf w, hg⟩
    | succ p =>
      obtain ⟨i1, i2, i3, i4, i5, i6, i7, i8⟩ := hg
      have em : nI p + (-1) = nI p - 1 := by rw [Int32.sub_eq_add_neg]
      rw [nI_pred, if_neg (nI_pos (by omega)), ld_n (by omega) (by omega), em]
      by_cases e : aI w 38 p = 0
      · rw [if_pos e]
        refine ih p w m nd R (by omega) ⟨i1, by omega, fun j hj => ⟨(i3 j hj).1, fun h => ?_⟩, fun k hk => ⟨by have := (i4 k hk).1; omega, (i4 k hk).2⟩, i5, i6, i7, i8⟩
        by_cases ej : j = p
        · rw [ej]; exact e
        · exact (i3 j hj).2 (by omega)
      · have e1 : aI w 38 p = 1 := (i3 p (by omega)).1.resolve_left e
        have hp : p < nB B := by omega
        have hnp := G.np hp
        rw [if_neg e, sz_n (by omega) (by omega)]
        have z1 : ∀ f, sI (pA w 38 f) 12 = nI m := fun f => i1
        rw [z1, st_n (by omega) (by omega)]
        have z2 : ∀ f g, sI (pA (pA w 38 f) 39 g) 12 = nI m := fun f g => i1
        rw [z2, nI_1]
        generalize hw8 : pI (pA (pA w 38 (upd (aI w 38) p (vp_nar .boolean 0))) 39 (upd (aI (pA w 38 (upd (aI w 38) p (vp_nar .boolean 0))) 39) m (nI p))) 12 (nI (m + 1)) = w8
        have f8 : Fr gS gA w w8 := by rw [← hw8]; exact ((Fr.rf w).pa rfl).pa rfl |>.pi rfl
        have R8 : RB B w8 := R.k f8
        have a38 : aI w8 38 = upd (aI w 38) p 0 := by rw [← hw8]; rfl
        have a39 : aI w8 39 = upd (aI w 39) m (nI p) := by rw [← hw8]; rfl
        have s12 : sI w8 12 = nI (m + 1) := by rw [← hw8]; rfl
        have hr8 := R8.2.2.2.1 p hp
        have xa : aB B p < 1000 ∨ aB B p = 2000 := by
          by_cases z : 1 ≤ npB B p
          · have := hnp.2.2.1 z; omega
          · exact Or.inr (hnp.2.2.2.2.1 z)
        have xb : bB B p < 1000 ∨ bB B p = 2000 := by
          by_cases z : 2 ≤ npB B p
          · have := hnp.2.2.2.1 z; omega
          · exact Or.inr (hnp.2.2.2.2.2 z)
        rw [ld_n (by omega) (by omega), hr8.2.1, cNeed xa, cv_s]
        generalize hw10 : (if aB B p = 2000 then w8 else pA w8 38 (upd (aI w8 38) (aB B p) 1)) = w10
        have f10 : Fr gS gA w w10 := by
          rw [← hw10]
          split
          · exact f8
          · exact f8.pa rfl
        have R10 : RB B w10 := R.k f10
        have hr10 := R10.2.2.2.1 p hp
        rw [ld_n (by omega) (by omega), hr10.2.2.1, cNeed xb, cv_s]
        generalize hw12 : (if bB B p = 2000 then w10 else pA w10 38 (upd (aI w10 38) (bB B p) 1)) = w12
        have f12 : Fr gS gA w w12 := by
          rw [← hw12]
          split
          · exact f10
          · exact f10.pa rfl
        have R12 : RB B w12 := R.k f12
        have v10 : ∀ j, aI w10 38 j = if j = aB B p ∧ aB B p ≠ 2000 then 1 else if j = p then 0 else aI w 38 j := fun j => by
          rw [← hw10]
          by_cases z : aB B p = 2000
          · rw [if_pos z, if_neg (fun h => h.2 z), a38]
            by_cases ej : j = p
            · rw [if_pos ej, ej, upd_s]
            · rw [if_neg ej, upd_n ej]
          · rw [if_neg z, aI_pA, if_pos rfl]
            by_cases ej : j = aB B p
            · rw [if_pos ⟨ej, z⟩, ej, upd_s]
            · rw [if_neg (fun h => ej h.1), upd_n ej, a38]
              by_cases ej2 : j = p
              · rw [if_pos ej2, ej2, upd_s]
              · rw [if_neg ej2, upd_n ej2]
        have v12 : ∀ j, aI w12 38 j = if j = bB B p ∧ bB B p ≠ 2000 then 1 else if j = aB B p ∧ aB B p ≠ 2000 then 1 else if j = p then 0 else aI w 38 j := fun j => by
          rw [← hw12]
          by_cases z : bB B p = 2000
          · rw [if_pos z, if_neg (fun h => h.2 z), v10]
          · rw [if_neg z, aI_pA, if_pos rfl]
            by_cases ej : j = bB B p
            · rw [if_pos ⟨ej, z⟩, ej, upd_s]
            · rw [if_neg (fun h => ej h.1), upd_n ej, v10]
        have w39 : aI w12 39 = aI w8 39 := by
          rw [← hw12, ← hw10]
          split <;> split <;> rfl
        have w12s : sI w12 12 = sI w8 12 := by
          rw [← hw12, ← hw10]
          split <;> split <;> rfl
        have kp : ∀ j, j ≠ p → aI w 38 j = 1 → aI w12 38 j = 1 := fun j hj h1 => by
          rw [v12, if_neg hj, h1]
          split
          · rfl
          · split <;> rfl
        have ndp : ∀ k, k < m → fu nd m p k = nd k := fun k hk => fu_n (by omega)
        have ndm : fu nd m p m = p := fu_s
        have old : ∀ x, (aI w 38 x = 1 ∨ ∃ i, i < m ∧ nd i = x) → (aI w12 38 x = 1 ∨ ∃ i, i < m + 1 ∧ fu nd m p i = x) := fun x h => by
          rcases h with h | ⟨i, h1, h2⟩
          · by_cases ex : x = p
            · exact Or.inr ⟨m, by omega, by rw [ndm, ex]⟩
            · exact Or.inl (kp x ex h)
          · exact Or.inr ⟨i, by omega, by rw [ndp i h1]; exact h2⟩
        suffices hg2 : GI B w12 s t top p (m + 1) (fu nd m p) by
          obtain ⟨w2, m2, nd2, r1, r2, r3⟩ := ih p w12 (m + 1) (fu nd m p) R12 (by omega) hg2
          exact ⟨w2, m2, nd2, r1, f12.tr r2, r3⟩
        refine ⟨by rw [w12s, s12], by omega, fun j hj => ⟨?_, fun h => ?_⟩, fun k hk => ?_, fun i k h1 h2 => ?_, fun k hk => ?_, old s i7, old t i8⟩
        · rw [v12]
          split
          · exact Or.inr rfl
          · split
            · exact Or.inr rfl
            · split
              · exact Or.inl rfl
              · exact (i3 j hj).1
        · rw [v12, if_neg, if_neg]
          · split
            · rfl
            · exact (i3 j hj).2 (by omega)
          · rintro ⟨h1, h2⟩
            rcases xa with z | z
            · by_cases y : 1 ≤ npB B p
              · have := hnp.2.2.1 y; omega
              · exact h2 (hnp.2.2.2.2.1 y)
            · exact h2 z
          · rintro ⟨h1, h2⟩
            rcases xb with z | z
            · by_cases y : 2 ≤ npB B p
              · have := hnp.2.2.2.1 y; omega
              · exact h2 (hnp.2.2.2.2.2 y)
            · exact h2 z
        · rw [w39, a39]
          by_cases ek : k = m
          · rw [ek, ndm, upd_s]
            exact ⟨by omega, hp, rfl⟩
          · rw [ndp k (by omega), upd_n ek]
            have := i4 k (by omega)
            exact ⟨by omega, this.2⟩
        · by_cases ek : k = m
          · rw [ek, ndm, ndp i (by omega)]
            have := i4 i (by omega)
            omega
          · rw [ndp k (by omega), ndp i (by omega)]
            exact i5 i k h1 (by omega)
        · by_cases ek : k = m
          · rw [ek, ndm]
            refine ⟨fun z => Or.inl ?_, fun z => Or.inl ?_⟩
            · have := hnp.2.2.1 z
              rw [v12]
              split
              · rfl
              · rw [if_pos ⟨rfl, by omega⟩]
            · have := hnp.2.2.2.1 z
              rw [v12, if_pos ⟨rfl, by omega⟩]
          · rw [ndp k (by omega)]
            have := i6 k (by omega)
            exact ⟨fun z => old _ (this.1 z), fun z => old _ (this.2 z)⟩
theorem cGather {B : Bk} (G : GB B) {N d s t : Nat} {w : Wd} (R : RB B w) (hN : 2000000 ≤ N) (hs : s < nB B) (ht : t < nB B) (h0 : ∀ j, j < 1000 → aI w 38 j = 0) :
    ∃ w2 m nd, eX7_gather N (d + 2) w (nI s) (nI t) = some w2 ∧ Fr gS gA w w2 ∧ Gt B w2 m nd ∧ (∀ j, j < 1000 → aI w2 38 j = 0) ∧ (∃ i, i < m ∧ nd i = s) ∧ ∃ i, i < m ∧ nd i = t := by
  have g1 := G.1
  have key : eX7_gather N (d + 2) w (nI s) (nI t) = bX7_gather_0 N (d + 1) w (nI s) (nI t) := rfl
  rw [key]
  unfold bX7_gather_0 bX7_gather_29
  simp only [c_pi]
  rw [sz_n (by omega) (by omega), sz_n (by omega) (by omega)]
  generalize hw3 : pI (pA (pA w 38 (upd (aI w 38) s (vp_nar .boolean 1))) 38 (upd (aI (pA w 38 (upd (aI w 38) s (vp_nar .boolean 1))) 38) t (vp_nar .boolean 1))) 12 0 = w3
  have f3 : Fr gS gA w w3 := by rw [← hw3]; exact ((Fr.rf w).pa rfl).pa rfl |>.pi rfl
  have R3 : RB B w3 := R.k f3
  have a38 : ∀ j, aI w3 38 j = if j = t then 1 else if j = s then 1 else aI w 38 j := fun j => by
    have : aI w3 38 = upd (upd (aI w 38) s 1) t 1 := by rw [← hw3]; rfl
    rw [this]
    by_cases e : j = t
    · rw [if_pos e, e, upd_s]
    · rw [if_neg e, upd_n e]
      by_cases e2 : j = s
      · rw [if_pos e2, e2, upd_s]
      · rw [if_neg e2, upd_n e2]
  have run : ∀ top, s < top → t < top → top ≤ nB B → ∃ w2 m nd, fX7_gather_30 N (d + 1) N w3 (nI top - 1) = some w2 ∧ Fr gS gA w w2 ∧ Gt B w2 m nd ∧ (∀ j, j < 1000 → aI w2 38 j = 0) ∧ (∃ i, i < m ∧ nd i = s) ∧ ∃ i, i < m ∧ nd i = t := by
    intro top h1 h2 h3
    have hg0 : GI B w3 s t top top 0 (fun _ => 0) := by
      refine ⟨by rw [← hw3]; rfl, by omega, fun j hj => ⟨?_, fun hq => ?_⟩, fun k hk => by omega, fun i k h1 h2 => by omega, fun k hk => by omega, Or.inl ?_, Or.inl ?_⟩
      · rw [a38]
        split
        · exact Or.inr rfl
        · split
          · exact Or.inr rfl
          · exact Or.inl (h0 j hj)
      · rw [a38, if_neg (by omega), if_neg (by omega)]; exact h0 j hj
      · rw [a38]
        split
        · rfl
        · exact if_pos rfl
      · rw [a38, if_pos rfl]
    obtain ⟨w2, m2, nd2, r1, r2, i1, i2, i3, i4, i5, i6, i7, i8⟩ := cGatherL G (N := N) (d := d) (s := s) (t := t) (top := top) h3 N top w3 0 (fun _ => 0) R3 (by omega) hg0
    have no : ∀ x, x < 1000 → ¬ aI w2 38 x = 1 := fun x hx h => by
      rw [(i3 x hx).2 (Nat.zero_le _)] at h
      exact absurd h (by decide)
    refine ⟨w2, m2, nd2, r1, f3.tr r2, ⟨i1, by omega, fun k hk => (i4 k hk).2, i5, fun k hk => ⟨fun z => ?_, fun z => ?_⟩⟩, fun j hj => (i3 j hj).2 (Nat.zero_le _), i7.resolve_left (no s (by omega)), i8.resolve_left (no t (by omega))⟩
    · have := (G.np (i4 k hk).2.1).2.2.1 z
      exact ((i6 k hk).1 z).resolve_left (no _ (by have := (i4 k hk).2.1; omega))
    · have := (G.np (i4 k hk).2.1).2.2.2.1 z
      exact ((i6 k hk).2 z).resolve_left (no _ (by have := (i4 k hk).2.1; omega))
  by_cases e : s ≤ t
  · rw [if_pos ((nI_leI (by omega) (by omega)).mpr e)]
    have := run (t + 1) (by omega) (by omega) (by omega)
    rw [nI_pred] at this
    exact this
  · rw [if_neg (fun z => e ((nI_leI (by omega) (by omega)).mp z))]
    have := run (s + 1) (by omega) (by omega) (by omega)
    rw [nI_pred] at this
    exact this
