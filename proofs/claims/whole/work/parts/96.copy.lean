/-! a copy of what stands round a node -/
/-- the way from a node up to the first -/
def Anc (n0 : Nat) (f1 f2 : Nat → Nat) (w : Wd) : List (Nat × Nat) → Nat → Prop
  | [] => fun x => x = 8
  | (o, i) :: r => fun x => 8 < x ∧ x < n0 ∧ 8 ≤ o ∧ o < n0 ∧ aI w 53 x = nI o ∧ aI w 54 x = nI i ∧ (i = 0 ∧ f1 o ≠ 2000 ∨ i = 1 ∧ f2 o ≠ 2000) ∧ Anc n0 f1 f2 w r o
/-- a tree within what stands round it -/
def Kt (hd f1 f2 : Nat → Nat) (T : Nat → Tr) : List (Nat × Nat) → Tr → Tr
  | [] => fun τ => τ
  | (o, i) :: r => fun τ => Kt hd f1 f2 T r (nd (hd o) (if i = 0 then τ else T (f1 o)) (if i = 1 then τ else T (f2 o)))
theorem Anc.k {n0 : Nat} {f1 f2 : Nat → Nat} {w w2 : Wd} (h53 : aI w2 53 = aI w 53) (h54 : aI w2 54 = aI w 54) : ∀ l x, Anc n0 f1 f2 w l x → Anc n0 f1 f2 w2 l x := by
  intro l
  induction l with
  | nil => intro x h; exact h
  | cons p r ih =>
    obtain ⟨o, i⟩ := p
    intro x h
    obtain ⟨h1, h2, h3, h4, h5, h6, h7, h8⟩ := h
    exact ⟨h1, h2, h3, h4, by rw [h53]; exact h5, by rw [h54]; exact h6, h7, ih o h8⟩
def TW2 (n : Nat) (hd f1 f2 : Nat → Nat) (w : Wd) : Prop := ∀ x, 8 ≤ x → x < n → aI w 50 x = nI (hd x) ∧ aI w 51 x = eN (f1 x) ∧ aI w 52 x = eN (f2 x)
def Ag (n0 : Nat) (hd f1 f2 : Nat → Nat) (T : Nat → Tr) (hd' f1' f2' : Nat → Nat) (T' : Nat → Tr) : Prop := (∀ z, z < n0 → hd' z = hd z ∧ f1' z = f1 z ∧ f2' z = f2 z ∧ T' z = T z) ∧ T' 2000 = T 2000
abbrev cpS : Nat → Bool := fun k => k == 19
abbrev cpA : Nat → Bool := fun k => k == 50 || k == 51 || k == 52
def bcX (n0 : Nat) (bc : Nat → Nat) : Nat → Nat := fun x => if x < n0 then bc x else x
/-- one node more -/
theorem TS.add {n n0 h a b : Nat} {hd f1 f2 bc : Nat → Nat} {T : Nat → Tr} (ts : TS n hd f1 f2 (bcX n0 bc) T) (hn : n < 158) (h0 : n0 ≤ n) (hn8 : 8 ≤ n) (ha : a < n ∨ a = 2000) (hb : b < n ∨ b = 2000) :
    TS (n + 1) (fu hd n h) (fu f1 n a) (fu f2 n b) (bcX n0 bc) (fu T n (nd h (T a) (T b))) := by
  obtain ⟨t1, t2, t3, t4, t5⟩ := ts
  have bn : bcX n0 bc n = n := by unfold bcX; rw [if_neg (by omega)]
  have tk : ∀ z, z < n ∨ z = 2000 → fu T n (nd h (T a) (T b)) z = T z := fun z hz => fu_n (by omega)
  refine ⟨fun x hx => ?_, fun x hx e x8 => ?_, fun x hx x8 => ?_, ?_, by omega⟩
  · by_cases e : x = n
    · rw [e, bn]; exact ⟨by omega, bn, rfl⟩
    · obtain ⟨k1, k2, k3⟩ := t1 x (by omega)
      exact ⟨by omega, k2, by rw [tk _ (Or.inl k1), tk _ (Or.inl (by omega)), k3]⟩
  · rw [tk x (by omega)]
    exact t2 x (by omega) e x8
  · by_cases e : x = n
    · rw [e, fu_s, fu_s, fu_s, fu_s, tk a ha, tk b hb]
      exact ⟨rfl, by omega, by omega⟩
    · obtain ⟨k1, k2, k3⟩ := t3 x (by omega) x8
      rw [fu_n e, fu_n e, fu_n e, fu_n e, tk _ k2, tk _ k3]
      exact ⟨k1, by omega, by omega⟩
  · rw [tk 2000 (Or.inr rfl)]; exact t4
theorem cLayRep {N d n0 : Nat} {hd f1 f2 bc : Nat → Nat} {T : Nat → Tr} {B : Bk} (h0 : 8 ≤ n0) (h0n : n0 ≤ 158) (ta0 : TA n0 hd f1 f2 B) (t3 : ∀ x, x < n0 → 8 ≤ x → (f1 x < n0 ∨ f1 x = 2000) ∧ (f2 x < n0 ∨ f2 x = 2000)) : ∀ l x inner n1 hd1 f11 f21 T1 w f lk, Anc n0 f1 f2 w l x → x < n0 → inner < n1 → n0 ≤ n1 → TS n1 hd1 f11 f21 (bcX n0 bc) T1 → TW2 n1 hd1 f11 f21 w → TA n1 hd1 f11 f21 B → Ag n0 hd f1 f2 T hd1 f11 f21 T1 → sI w 19 = nI n1 → n1 + l.length ≤ 158 → lk + l.length ≤ 29 → l.length < f →
    ∃ w2 n2 hd2 f12 f22 T2 y, fX5_layReplaced_8 N d f w (nI inner) (nI x) (nI lk) = some (w2, nI y) ∧ Fr cpS cpA w w2 ∧ sI w2 19 = nI n2 ∧ n1 ≤ n2 ∧ TS n2 hd2 f12 f22 (bcX n0 bc) T2 ∧ TW2 n2 hd2 f12 f22 w2 ∧ TA n2 hd2 f12 f22 B ∧ Ag n0 hd f1 f2 T hd2 f12 f22 T2 ∧ y < n2 ∧ T2 y = Kt hd f1 f2 T l (T1 inner) := by
  intro l
  induction l with
  | nil =>
    intro x inner n1 hd1 f11 f21 T1 w f lk an hx hi hn1 ts tw ta ag h19 hl hlk hf
    obtain ⟨f, rfl⟩ : ∃ f2, f = f2 + 1 := ⟨f - 1, by omega⟩
    have e : x = 8 := an
    have key : fX5_layReplaced_8 N d (f + 1) w (nI inner) (nI x) (nI lk) = bX5_layReplaced_8 N d (fX5_layReplaced_8 N d f) w (nI inner) (nI x) (nI lk) := rfl
    rw [key]
    unfold bX5_layReplaced_8 bX5_layReplaced_143
    rw [if_neg (by rw [show (30 : Int32) = nI 30 from rfl, nI_leI (by omega) (by omega)]; omega), if_pos (by rw [show (8 : Int32) = nI 8 from rfl, nI_leI (by omega) (by omega)]; omega)]
    exact ⟨w, n1, hd1, f11, f21, T1, inner, rfl, Fr.rf w, h19, Nat.le_refl _, ts, tw, ta, ag, hi, rfl⟩
  | cons p r ih =>
    obtain ⟨o, i⟩ := p
    intro x inner n1 hd1 f11 f21 T1 w f lk an hx hi hn1 ts tw ta ag h19 hl hlk hf
    rw [List.length_cons] at hl hlk hf
    obtain ⟨f, rfl⟩ : ∃ f2, f = f2 + 1 := ⟨f - 1, by omega⟩
    obtain ⟨q1, q2, q3, q4, q5, q6, q7, q8⟩ := an
    have key : fX5_layReplaced_8 N d (f + 1) w (nI inner) (nI x) (nI lk) = bX5_layReplaced_8 N d (fX5_layReplaced_8 N d f) w (nI inner) (nI x) (nI lk) := rfl
    rw [key]
    unfold bX5_layReplaced_8
    obtain ⟨k1, k2, k3⟩ := tw o q3 (by omega)
    obtain ⟨a1, a2, a3, a4⟩ := ag.1 o q4
    obtain ⟨v1, v2⟩ := t3 o q4 q3
    rw [if_neg (by rw [show (30 : Int32) = nI 30 from rfl, nI_leI (by omega) (by omega)]; omega), if_neg (by rw [show (8 : Int32) = nI 8 from rfl, nI_leI (by omega) (by omega)]; omega), h19, if_neg (by rw [show (158 : Int32) = nI 158 from rfl, nI_leI (by omega) (by omega)]; omega)]
    rw [ld_n (by omega) (by omega), q5, ld_n (by omega) (by omega), k1, st_n (by omega) (by omega)]
    have h3 : sI (pA w 50 (upd (aI w 50) n1 (nI (hd1 o)))) 19 = nI n1 := h19
    rw [ld_n (by omega) (by omega)]
    rw [show aI (pA w 50 (upd (aI w 50) n1 (nI (hd1 o)))) 54 x = nI i from q6, h3]
    -- both ways lead to the same store
    have go : ∀ a b, (a < n1 ∨ a = 2000) → (b < n1 ∨ b = 2000) → TA (n1 + 1) (fu hd1 n1 (hd1 o)) (fu f11 n1 a) (fu f21 n1 b) B →
        Kt hd f1 f2 T ((o, i) :: r) (T1 inner) = Kt hd f1 f2 T r (nd (hd1 o) (T1 a) (T1 b)) →
        ∃ w2 n2 hd2 f12 f22 T2 y, fX5_layReplaced_8 N d f (pI (pA (pA (pA w 50 (upd (aI w 50) n1 (nI (hd1 o)))) 51 (upd (aI w 51) n1 (eN a))) 52 (upd (aI w 52) n1 (eN b))) 19 (nI (n1 + 1))) (nI n1) (nI o) (nI (lk + 1)) = some (w2, nI y) ∧ Fr cpS cpA w w2 ∧ sI w2 19 = nI n2 ∧ n1 ≤ n2 ∧ TS n2 hd2 f12 f22 (bcX n0 bc) T2 ∧ TW2 n2 hd2 f12 f22 w2 ∧ TA n2 hd2 f12 f22 B ∧ Ag n0 hd f1 f2 T hd2 f12 f22 T2 ∧ y < n2 ∧ T2 y = Kt hd f1 f2 T ((o, i) :: r) (T1 inner) := fun a b ha hb ta2 ek => by
      have fr : Fr cpS cpA w (pI (pA (pA (pA w 50 (upd (aI w 50) n1 (nI (hd1 o)))) 51 (upd (aI w 51) n1 (eN a))) 52 (upd (aI w 52) n1 (eN b))) 19 (nI (n1 + 1))) := ((((Fr.rf w).pa (k := 50) rfl).pa (k := 51) rfl).pa (k := 52) rfl).pi (k := 19) rfl
      obtain ⟨w2, n2, hd2, f12, f22, T2, y, z1, z2, z3, z4, z5, z6, z7, z8, z9, z10⟩ := ih o n1 (n1 + 1) (fu hd1 n1 (hd1 o)) (fu f11 n1 a) (fu f21 n1 b) (fu T1 n1 (nd (hd1 o) (T1 a) (T1 b))) (pI (pA (pA (pA w 50 (upd (aI w 50) n1 (nI (hd1 o)))) 51 (upd (aI w 51) n1 (eN a))) 52 (upd (aI w 52) n1 (eN b))) 19 (nI (n1 + 1))) f (lk + 1) (Anc.k (fr.2 53 rfl).1 (fr.2 54 rfl).1 r o q8) q4 (by omega) (by omega) (ts.add (by omega) hn1 (by omega) ha hb) (fun z z8 hz => by
          show upd (aI w 50) n1 (nI (hd1 o)) z = _ ∧ upd (aI w 51) n1 (eN a) z = _ ∧ upd (aI w 52) n1 (eN b) z = _
          by_cases e : z = n1
          · rw [e, upd_s, upd_s, upd_s, fu_s, fu_s, fu_s]; exact ⟨rfl, rfl, rfl⟩
          · rw [upd_n e, upd_n e, upd_n e, fu_n e, fu_n e, fu_n e]; exact tw z z8 (by omega)) ta2 ⟨fun z hz => by rw [fu_n (by omega), fu_n (by omega), fu_n (by omega), fu_n (by omega)]; exact ag.1 z hz, by rw [fu_n (by omega)]; exact ag.2⟩ rfl (by omega) (by omega) (by omega)
      refine ⟨w2, n2, hd2, f12, f22, T2, y, z1, fr.tr z2, z3, by omega, z5, z6, z7, z8, z9, ?_⟩
      rw [z10, fu_s, ek]
    have tan : ∀ a b, (a = 2000 ↔ f11 o = 2000) → (b = 2000 ↔ f21 o = 2000) → TA (n1 + 1) (fu hd1 n1 (hd1 o)) (fu f11 n1 a) (fu f21 n1 b) B := fun a b ha hb z z8 hz => by
      by_cases e : z = n1
      · obtain ⟨c1, c2, c3⟩ := ta o q3 (by omega)
        rw [e, fu_s, fu_s, fu_s]
        exact ⟨c1, c2.trans (not_congr ha.symm), c3.trans (not_congr hb.symm)⟩
      · rw [fu_n e, fu_n e, fu_n e]
        exact ta z z8 (by omega)
    have w6e : ∀ a, aI (pA (pA w 50 (upd (aI w 50) n1 (nI (hd1 o)))) 51 (upd (aI (pA w 50 (upd (aI w 50) n1 (nI (hd1 o)))) 51) n1 a)) 54 x = nI i := fun a => q6
    have w6s : ∀ a, sI (pA (pA w 50 (upd (aI w 50) n1 (nI (hd1 o)))) 51 (upd (aI (pA w 50 (upd (aI w 50) n1 (nI (hd1 o)))) 51) n1 a)) 19 = nI n1 := fun a => h19
    rcases q7 with ⟨qi, qf⟩ | ⟨qi, qf⟩
    · subst qi
      rw [if_pos (show nI 0 = 0 from rfl)]
      unfold bX5_layReplaced_86 bX5_layReplaced_117
      rw [st_n (by omega) (by omega), ld_n (by omega) (by omega), w6e, if_neg (show ¬ nI 0 = 1 by decide), ld_n (by omega) (by omega)]
      rw [show aI (pA (pA w 50 (upd (aI w 50) n1 (nI (hd1 o)))) 51 (upd (aI (pA w 50 (upd (aI w 50) n1 (nI (hd1 o)))) 51) n1 (nI inner))) 52 o = eN (f21 o) from k3, w6s, st_n (by omega) (by omega)]
      simp only [c_nm, c_pi]
      rw [show sI (pA (pA (pA w 50 (upd (aI w 50) n1 (nI (hd1 o)))) 51 (upd (aI (pA w 50 (upd (aI w 50) n1 (nI (hd1 o)))) 51) n1 (nI inner))) 52 (upd (aI (pA (pA w 50 (upd (aI w 50) n1 (nI (hd1 o)))) 51 (upd (aI (pA w 50 (upd (aI w 50) n1 (nI (hd1 o)))) 51) n1 (nI inner))) 52) n1 (eN (f21 o)))) 19 = nI n1 from h19, nI_1, nI_1]
      have := go inner (f21 o) (Or.inl hi) (by omega) (tan inner (f21 o) ⟨fun z => by omega, fun z => absurd (a2 ▸ z) qf⟩ Iff.rfl) (by
        show Kt hd f1 f2 T r (nd (hd o) (if 0 = 0 then T1 inner else T (f1 o)) (if 0 = 1 then T1 inner else T (f2 o))) = _
        rw [if_pos rfl, if_neg (by decide), a1, a3]
        rcases v2 with v | v
        · rw [(ag.1 _ v).2.2.2]
        · rw [v, ag.2])
      rw [eN_n (by omega)] at this
      exact this
    · subst qi
      rw [if_neg (show ¬ nI 1 = 0 by decide), ld_n (by omega) (by omega)]
      rw [show aI (pA w 50 (upd (aI w 50) n1 (nI (hd1 o)))) 51 o = eN (f11 o) from k2]
      unfold bX5_layReplaced_86 bX5_layReplaced_117
      rw [st_n (by omega) (by omega), ld_n (by omega) (by omega), w6e, if_pos (show nI 1 = 1 from rfl), w6s, st_n (by omega) (by omega)]
      simp only [c_nm, c_pi]
      rw [show sI (pA (pA (pA w 50 (upd (aI w 50) n1 (nI (hd1 o)))) 51 (upd (aI (pA w 50 (upd (aI w 50) n1 (nI (hd1 o)))) 51) n1 (eN (f11 o)))) 52 (upd (aI (pA (pA w 50 (upd (aI w 50) n1 (nI (hd1 o)))) 51 (upd (aI (pA w 50 (upd (aI w 50) n1 (nI (hd1 o)))) 51) n1 (eN (f11 o)))) 52) n1 (nI inner))) 19 = nI n1 from h19, nI_1, nI_1]
      have := go (f11 o) inner (by omega) (Or.inl hi) (tan (f11 o) inner Iff.rfl ⟨fun z => by omega, fun z => absurd (a3 ▸ z) qf⟩) (by
        show Kt hd f1 f2 T r (nd (hd o) (if 1 = 0 then T1 inner else T (f1 o)) (if 1 = 1 then T1 inner else T (f2 o))) = _
        rw [if_neg (by decide), if_pos rfl, a1, a2]
        rcases v1 with v | v
        · rw [(ag.1 _ v).2.2.2]
        · rw [v, ag.2])
      rw [eN_n (by omega : inner < 2000)] at this
      exact this
theorem cCopyL {N d n2 : Nat} {y : Int32} (hn : n2 ≤ 158) : ∀ k f j w, n2 - j ≤ k → j ≤ n2 → k < f → sI w 19 = nI n2 →
    ∃ w2, fX1_copyReplaced_24 N d f w y (nI j) = some (w2, y) ∧ Fr noS (fun k => k == 59) w w2 ∧ (∀ z, j ≤ z → z < n2 → aI w2 59 z = nI z) ∧ ∀ z, z < j → aI w2 59 z = aI w 59 z := by
  intro k
  induction k with
  | zero =>
    intro f j w hk hj hf h19
    obtain ⟨f, rfl⟩ : ∃ f2, f = f2 + 1 := ⟨f - 1, by omega⟩
    have key : fX1_copyReplaced_24 N d (f + 1) w y (nI j) = bX1_copyReplaced_24 N d (fX1_copyReplaced_24 N d f) w y (nI j) := rfl
    rw [key]
    unfold bX1_copyReplaced_24
    rw [h19, if_pos (by rw [nI_leI (by omega) (by omega)]; omega)]
    exact ⟨w, rfl, Fr.rf w, fun z h1 h2 => by omega, fun _ _ => rfl⟩
  | succ k ih =>
    intro f j w hk hj hf h19
    obtain ⟨f, rfl⟩ : ∃ f2, f = f2 + 1 := ⟨f - 1, by omega⟩
    have key : fX1_copyReplaced_24 N d (f + 1) w y (nI j) = bX1_copyReplaced_24 N d (fX1_copyReplaced_24 N d f) w y (nI j) := rfl
    rw [key]
    unfold bX1_copyReplaced_24
    by_cases e : j = n2
    · rw [h19, if_pos (by rw [nI_leI (by omega) (by omega)]; omega)]
      exact ⟨w, rfl, Fr.rf w, fun z h1 h2 => by omega, fun _ _ => rfl⟩
    · rw [h19, if_neg (by rw [nI_leI (by omega) (by omega)]; omega), st_n (by omega) (by omega)]
      simp only [c_nm]
      rw [nI_1]
      obtain ⟨w2, o1, o2, o3, o4⟩ := ih f (j + 1) (pA w 59 (upd (aI w 59) j (nI j))) (by omega) (by omega) (by omega) h19
      refine ⟨w2, o1, ((Fr.rf w).pa (k := 59) rfl).tr o2, fun z h1 h2 => ?_, fun z hz => ?_⟩
      · by_cases e2 : z = j
        · rw [e2, o4 j (by omega)]
          exact upd_s
        · exact o3 z (by omega) h2
      · rw [o4 z (by omega)]
        exact upd_n (by omega)
abbrev crA : Nat → Bool := fun k => k == 50 || k == 51 || k == 52 || k == 59
theorem cCopyR {N d n0 x inner : Nat} {hd f1 f2 bc : Nat → Nat} {T : Nat → Tr} {B : Bk} {l : List (Nat × Nat)} {w : Wd} (hN : 2000000 ≤ N) (h0 : 8 ≤ n0) (ta : TA n0 hd f1 f2 B) (ts : TS n0 hd f1 f2 bc T) (tw : TW n0 hd f1 f2 bc w) (an : Anc n0 f1 f2 w l x) (hx : x < n0) (hi : inner < n0) (h9 : sI w 9 = nI inner) (h19 : sI w 19 = nI n0) (hl : n0 + l.length ≤ 158) (hl2 : l.length ≤ 29) :
    ∃ w2 n2 hd2 f12 f22 T2 y, eX1_copyReplaced N (d + 2) w (nI x) = some (w2, nI y) ∧ Fr cpS crA w w2 ∧ n0 ≤ n2 ∧ TS n2 hd2 f12 f22 (bcX n0 bc) T2 ∧ TW n2 hd2 f12 f22 (bcX n0 bc) w2 ∧ TA n2 hd2 f12 f22 B ∧ Ag n0 hd f1 f2 T hd2 f12 f22 T2 ∧ y < n2 ∧ T2 y = Kt hd f1 f2 T l (T inner) := by
  have bx : ∀ z, z < n0 → bcX n0 bc z = bc z := fun z hz => by unfold bcX; rw [if_pos hz]
  have ts2 : TS n0 hd f1 f2 (bcX n0 bc) T := by
    obtain ⟨t1, t2, t3, t4, t5⟩ := ts
    refine ⟨fun z hz => ?_, fun z hz e z8 => t2 z hz (by rw [bx z hz] at e; exact e) z8, t3, t4, t5⟩
    obtain ⟨k1, k2, k3⟩ := t1 z hz
    rw [bx z hz, bx _ k1]
    exact ⟨k1, k2, k3⟩
  have key : eX1_copyReplaced N (d + 2) w (nI x) = bX1_copyReplaced_0 N (d + 1) w (nI x) := rfl
  rw [key]
  unfold bX1_copyReplaced_0
  simp only [c_nm]
  rw [h9, h19]
  obtain ⟨w2, n2, hd2, f12, f22, T2, y, z1, z2, z3, z4, z5, z6, z7, z8, z9, z10⟩ := cLayRep (N := N) (d := d) (bc := bc) (T := T) (B := B) h0 (by omega) ta (fun x hx x8 => ⟨(ts.2.2.1 x hx x8).2.1, (ts.2.2.1 x hx x8).2.2⟩) l x inner n0 hd f1 f2 T w N 0 an hx hi (Nat.le_refl _) ts2 tw.2 ta ⟨fun _ _ => ⟨rfl, rfl, rfl, rfl⟩, rfl⟩ h19 hl (by omega) (by omega)
  have k2 : eX5_layReplaced N (d + 1) w (nI x) (nI inner) = some (w2, nI y) := z1
  rw [k2, cl_s]
  have n2l := z5.2.2.2.2
  obtain ⟨w3, o1, o2, o3, o4⟩ := cCopyL (N := N) (d := d + 1) (y := nI y) n2l n2 N n0 w2 (by omega) z4 (by omega) z3
  rw [o1]
  refine ⟨w3, n2, hd2, f12, f22, T2, y, rfl, ?_, z4, z5, ⟨fun z hz => ?_, ?_⟩, z7, z8, z9, z10⟩
  · refine (z2.mn (fun _ h => h) (fun k hk => (Bool.or_eq_false_iff.mp hk).1)).tr (o2.mn (fun _ _ => rfl) (fun k hk => (Bool.or_eq_false_iff.mp hk).2))
  · by_cases e : z < n0
    · rw [o4 z e, (z2.2 59 rfl).1, tw.1 z e, bx z e]
    · rw [o3 z (by omega) hz]
      unfold bcX
      rw [if_neg e]
  · rw [(o2.2 50 rfl).1, (o2.2 51 rfl).1, (o2.2 52 rfl).1]
    exact z6
/-! places -/
def Und (p q : Nat) : Prop := ∃ j, q / 3 ^ j = p
theorem Und.rf {p : Nat} : Und p p := ⟨0, Nat.div_one p⟩
theorem Und.up {p q i : Nat} (hi : i < 3) (h : Und (3 * p + i) q) : Und p q := by
  obtain ⟨j, e⟩ := h
  refine ⟨j + 1, ?_⟩
  rw [Nat.pow_succ, ← Nat.div_div_eq_div_mul, e]
  omega
theorem Und.le {p q : Nat} (h : Und p q) : p ≤ q := by
  obtain ⟨j, e⟩ := h
  rw [← e]
  exact Nat.div_le_self _ _
theorem Und.ne {p q i : Nat} (hp : 1 ≤ p) (h : Und (3 * p + i) q) : p ≠ q := fun e => by
  have := h.le
  omega
theorem Und.two {p q : Nat} (hp : 1 ≤ p) (h0 : Und (3 * p) q) (h1 : Und (3 * p + 1) q) : False := by
  obtain ⟨a, ea⟩ := h0
  obtain ⟨b, eb⟩ := h1
  rcases Nat.lt_trichotomy a b with z | z | z
  · obtain ⟨c, rfl⟩ : ∃ c, b = a + (c + 1) := ⟨b - a - 1, by omega⟩
    rw [Nat.pow_add, ← Nat.div_div_eq_div_mul, ea, Nat.pow_succ] at eb
    have : 3 * p / (3 ^ c * 3) ≤ p := by
      rw [Nat.mul_comm (3 ^ c) 3, ← Nat.div_div_eq_div_mul]
      have : 3 * p / 3 = p := by omega
      rw [this]
      exact Nat.div_le_self _ _
    omega
  · rw [z, eb] at ea
    omega
  · obtain ⟨c, rfl⟩ : ∃ c, a = b + (c + 1) := ⟨a - b - 1, by omega⟩
    rw [Nat.pow_add, ← Nat.div_div_eq_div_mul, eb, Nat.pow_succ] at ea
    have : (3 * p + 1) / (3 ^ c * 3) ≤ p := by
      rw [Nat.mul_comm (3 ^ c) 3, ← Nat.div_div_eq_div_mul]
      have : (3 * p + 1) / 3 = p := by omega
      rw [this]
      exact Nat.div_le_self _ _
    omega
