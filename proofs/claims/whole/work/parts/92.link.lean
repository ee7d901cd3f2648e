/-! the class makes two nodes the same -/
abbrev u2A : Nat → Bool := fun k => k == 57 || k == 58
theorem cUInit {N D n : Nat} {xa xb : Int32} (hn : n ≤ 158) : ∀ k f j w, n - j ≤ k → j ≤ n → k < f → sI w 19 = nI n → (∀ x, x < j → aI w 57 x = nI x ∧ aI w 58 x = nI x) →
    ∃ w2, fX9_unify_2 N D f w xa xb (nI j) = (c_cv (eX9_await N D (pI w2 20 0) xa xb) fun w2 => fX9_unify_46 N D N w2 (nI 0)) ∧ Fr noS u2A w w2 ∧ ∀ x, x < n → aI w2 57 x = nI x ∧ aI w2 58 x = nI x := by
  intro k
  induction k with
  | zero =>
    intro f j w hk hj hf h19 hx
    obtain ⟨f, rfl⟩ : ∃ f2, f = f2 + 1 := ⟨f - 1, by omega⟩
    have key : fX9_unify_2 N D (f + 1) w xa xb (nI j) = bX9_unify_2 N D (fX9_unify_2 N D f) w xa xb (nI j) := rfl
    rw [key]
    unfold bX9_unify_2
    rw [h19, if_pos (by rw [nI_leI (by omega) (by omega)]; omega)]
    simp only [c_pi]
    exact ⟨w, rfl, Fr.rf w, fun x h1 => hx x (by omega)⟩
  | succ k ih =>
    intro f j w hk hj hf h19 hx
    obtain ⟨f, rfl⟩ : ∃ f2, f = f2 + 1 := ⟨f - 1, by omega⟩
    have key : fX9_unify_2 N D (f + 1) w xa xb (nI j) = bX9_unify_2 N D (fX9_unify_2 N D f) w xa xb (nI j) := rfl
    rw [key]
    unfold bX9_unify_2
    by_cases e : j = n
    · rw [h19, if_pos (by rw [nI_leI (by omega) (by omega)]; omega)]
      simp only [c_pi]
      exact ⟨w, rfl, Fr.rf w, fun x h1 => hx x (by omega)⟩
    · rw [h19, if_neg (by rw [nI_leI (by omega) (by omega)]; omega), st_n (by omega) (by omega), st_n (by omega) (by omega)]
      simp only [c_nm]
      rw [nI_1]
      obtain ⟨w2, o1, o2, o3⟩ := ih f (j + 1) (pA (pA w 57 (upd (aI w 57) j (nI j))) 58 (upd (aI w 58) j (nI j))) (by omega) (by omega) (by omega) h19 (fun x hx1 => by
        show upd (aI w 57) j (nI j) x = _ ∧ upd (aI w 58) j (nI j) x = _
        by_cases z : x = j
        · rw [z, upd_s, upd_s]; exact ⟨rfl, rfl⟩
        · rw [upd_n z, upd_n z]; exact hx x (by omega))
      exact ⟨w2, o1, (((Fr.rf w).pa (k := 57) rfl).pa (k := 58) rfl).tr o2, o3⟩
theorem Fr.uu {S A : Nat → Bool} {w w2 : Wd} (h : Fr S A w w2) (hS : ∀ k, k ≠ 20 → S k = false) (hA : ∀ k, (k < 57 ∨ 62 < k) → A k = false) : Fr uS uA w w2 := h.mn (fun k hk => hS k (fun z => by rw [z] at hk; cases hk)) (fun k hk => hA k (by
  by_cases q : k < 57
  · exact Or.inl q
  · refine Or.inr ?_
    apply Decidable.byContradiction
    intro z
    rw [show uA k = (decide (56 < k) && decide (k < 63)) from rfl, decide_eq_true (by omega), decide_eq_true (by omega)] at hk
    cases hk))
theorem tv_tsz {B : Bk} (G : GB B) {ρ : Nat → Tr} {t m u : Nat} (ht : t < nB B) (hs : hB B t < 10) (hu : u < 8) (hc : 0 < ctB B t u) : tsz (ρ (u + m)) < tsz (tv B ρ m t) := by
  have e : tv B ρ m t = sub ρ (tv B (fun v => vr v) m t) := by
    rw [tv_sub G (t + 1) t (by omega) ht]
    rfl
  have hv : u + m ∈ vs (tv B (fun v => vr v) m t) := (tv_vs G (t + 1) t (by omega) ht).mpr ⟨u, hu, hc, List.mem_singleton.mpr rfl⟩
  rw [e]
  rw [tv_eq G ht, if_pos hs] at hv ⊢
  exact tsz_sub_nd hv
/-- what the class's unification gives -/
def CUn (B : Bk) (s : Sht) (n a0 b0 : Nat) (w2 : Wd) (r : Int32) : Prop :=
  (r = 0 ∧ ∀ ρ, nv B s ρ a0 ≠ nv B s ρ b0) ∨ (r = 1 ∧ ∃ (bc rk : Nat → Nat), BC n (hdS B s) (f1S s) (f2S s) a0 b0 bc ∧ (∀ x, x < n → aI w2 59 x = nI (bc x)) ∧ (∀ v, rk v ≤ 8) ∧ ∀ v u, v < 8 → u < 8 → Eg B s bc v u → rk u < rk v)
theorem cUnify {B : Bk} {s : Sht} {N d n a0 b0 : Nat} {w : Wd} (hN : 2000000 ≤ N) (G : GB B) (h8 : 8 ≤ n) (hn : n ≤ 158) (sw : SW B s n w) (h19 : sI w 19 = nI n) (ha : a0 < n) (hb : b0 < n) :
    ∃ w2 r, eX9_unify N (d + 3) w (nI a0) (nI b0) = some (w2, r) ∧ Fr uS uA w w2 ∧ CUn B s n a0 b0 w2 r := by
  have key : eX9_unify N (d + 3) w (nI a0) (nI b0) = fX9_unify_2 N (d + 2) N w (nI a0) (nI b0) (nI 0) := rfl
  rw [key]
  obtain ⟨w1, i1, i2, i3⟩ := cUInit (N := N) (D := d + 2) (xa := nI a0) (xb := nI b0) hn n N 0 w (by omega) (by omega) (by omega) h19 (fun x h => by omega)
  rw [i1]
  have h20 : sI (pI w1 20 0) 20 = nI ([] : List (Nat × Nat)).length := rfl
  obtain ⟨w2, a1, a2, a3, a4⟩ := cAwait (N := N) (d := d + 1) (u := a0) (v := b0) (w := pI w1 20 0) (W := []) (Or.inl (by omega)) (Or.inl (by omega)) (by decide) h20 trivial
  rw [eN_n (by omega), eN_n (by omega)] at a1
  rw [a1, cv_s]
  have ew : wpre a0 b0 [] = [(a0, b0)] := by
    unfold wpre
    rw [if_neg (by omega)]
  rw [ew] at a3 a4
  have f2 : Fr uS uA w w2 := ((i2.uu (fun k hk => rfl) (fun k hk => by
    show (k == 57 || k == 58) = false
    rw [beq_eq_false_iff_ne.mpr (by omega), beq_eq_false_iff_ne.mpr (by omega)]; rfl)).pi (k := 20) rfl).tr (a2.uu (fun k hk => beq_eq_false_iff_ne.mpr hk) (fun k hk => by
    show (k == 60 || k == 61) = false
    rw [beq_eq_false_iff_ne.mpr (by omega), beq_eq_false_iff_ne.mpr (by omega)]; rfl))
  have sw2 : SW B s n w2 := sw.k f2
  have u0 : UF n (hdS B s) (f1S s) (f2S s) a0 b0 (fun x => x) (fun x => x) (fun x => x) (fun _ => 0) [(a0, b0)] 0 := UF.start ha hb (fun _ _ => rfl) (fun _ _ => rfl)
  have uw : UW n (fun x => x) (fun x => x) [(a0, b0)] w2 := ⟨fun x hx => by rw [(a2.2 57 rfl).1, (a2.2 58 rfl).1]; exact i3 x hx, a3, a4⟩
  obtain ⟨w3, l1, l2⟩ := cUnifyL (N := N) (d := d) (a0 := a0) (b0 := b0) hN G h8 hn 400 N 0 _ _ _ _ _ _ w2 sw2 u0 uw (by rw [List.length_singleton]; omega) (by omega) (by omega)
  have f3 : Fr uS uA w w3 := f2.tr (l1.uu (fun k hk => beq_eq_false_iff_ne.mpr hk) (fun k hk => by
    show (k == 57 || k == 58 || k == 60 || k == 61) = false
    rw [beq_eq_false_iff_ne.mpr (by omega), beq_eq_false_iff_ne.mpr (by omega), beq_eq_false_iff_ne.mpr (by omega), beq_eq_false_iff_ne.mpr (by omega)]; rfl))
  have sw3 : SW B s n w3 := sw.k f3
  rcases l2 with ⟨l2, l3⟩ | ⟨l2, L, Sh, rt, dep, c, l3, l4⟩
  · rw [l2]
    exact ⟨w3, 0, rfl, f3, Or.inl ⟨rfl, fun ρ e => l3 (Eq2 B s ρ) Eq2.sm (Eq2.md G sw3 hn) e⟩⟩
  · rw [l2]
    have e19 : sI w3 19 = nI n := by rw [f3.1 19 rfl]; exact h19
    obtain ⟨w4, b1, b2, b3⟩ := cBecomes (N := N) (d := d + 1) hN hn l3 n N 0 w3 (by omega) (by omega) (by omega) e19 l4 (fun x h => by omega)
    have key2 : bX9_unify_110 N (d + 2) w3 = fX9_unify_112 N (d + 1 + 1) N w3 (nI 0) := rfl
    rw [key2, b1]
    have f4 : Fr uS uA w w4 := f3.tr (b2.uu (fun k hk => rfl) (fun k hk => beq_eq_false_iff_ne.mpr (by omega)))
    have bcc := l3.fin (sw.sh G h8 hn) ha hb
    generalize hbc : (fun x => Sh (rt x)) = bc at bcc
    have b3 : ∀ x, x < n → aI w4 59 x = nI (bc x) := fun x hx => by rw [← hbc]; exact b3 x hx
    have bsol : ∀ ρ, nv B s ρ a0 = nv B s ρ b0 → ∀ x, x < n → nv B s ρ x = nv B s ρ (bc x) := fun ρ e x hx => bcc.2.2 (Eq2 B s ρ) Eq2.sm (Eq2.md G sw3 hn) e x hx
    obtain ⟨w5, r, c1, c2, c3⟩ := cRound (B := B) (s := s) (N := N) (d := d) (n := n) (bc := bc) (w := w4) hN hn (fun v hv => (bcc.1 v (by omega)).1) (sw.k f4) (fun v hv => b3 v (by omega)) (P := fun v u => ∀ ρ, nv B s ρ a0 = nv B s ρ b0 → tsz (ρ u) < tsz (ρ v))
      (fun x y z h g ρ e => Nat.lt_trans (g ρ e) (h ρ e)) (fun v u hv hu g ρ e => by
        have bn := (bcc.1 v (by omega)).1
        obtain ⟨g1, g2, g3⟩ := g
        obtain ⟨d1, d2, d3⟩ := sw _ g1 bn
        have e2 := bsol ρ e v (by omega)
        rw [nv_v hv, nv_s g1 (by omega)] at e2
        rw [e2]
        have := tv_tsz (ρ := ρ) (m := msS s (bc v)) G d1.1 d2 (by omega) g3
        rw [show u - msS s (bc v) + msS s (bc v) = u by omega] at this
        exact this)
    have c1' : eX9_isRound N (d + 1 + 1) w4 = some (w5, r) := c1
    rw [c1', cl_s]
    have f5 : Fr uS uA w w5 := f4.tr (c2.uu (fun k hk => rfl) (fun k hk => beq_eq_false_iff_ne.mpr (by omega)))
    unfold bX9_unify_157 c_bo
    rcases c3 with ⟨q, x, hx, hp⟩ | ⟨q, M, m1, m2, m3⟩
    · rw [q, if_neg i10]
      refine ⟨w5, 0, rfl, f5, Or.inl ⟨rfl, fun ρ e => absurd (hp ρ e) (Nat.lt_irrefl _)⟩⟩
    · rw [q, if_pos i00]
      obtain ⟨rk, r1, r2⟩ := rk_of m1 m2 m3
      exact ⟨w5, 1, rfl, f5, Or.inr ⟨rfl, bc, rk, bcc, fun x hx => by rw [(c2.2 59 rfl).1]; exact b3 x hx, r1, r2⟩⟩
/-! two most general solutions are one but for names -/
def piT (ρ : Nat → Tr) (u : Nat) : Nat := match ρ u with
  | .tag x .line => x
  | _ => 0
theorem sub_var {ρ : Nat → Tr} {u : Nat} : ∀ τ : Tr, sub ρ τ = vr u → ∃ x, τ = vr x ∧ ρ x = vr u
  | .tag n (.append a b) => fun h => by cases h
  | .tag n .line => fun h => ⟨n, rfl, h⟩
  | .tag n .nil => fun h => by cases h
  | .tag n (.align _) => fun h => by cases h
  | .tag n (.text _) => fun h => by cases h
  | .tag n (.nest _ _) => fun h => by cases h
  | .tag n (.group _ _) => fun h => by cases h
  | .tag n (.tag _ _) => fun h => by cases h
  | .nil => fun h => by cases h
  | .line => fun h => by cases h
  | .align _ => fun h => by cases h
  | .text _ => fun h => by cases h
  | .nest _ _ => fun h => by cases h
  | .append _ _ => fun h => by cases h
  | .group _ _ => fun h => by cases h
theorem pi_ok {ρc ρr : Nat → Tr} {u : Nat} (h2 : sub ρr (ρc u) = ρr u) (hu : ρr u = vr u) : ρc u = vr (piT ρc u) ∧ ρr (piT ρc u) = vr u := by
  rw [hu] at h2
  obtain ⟨x, x1, x2⟩ := sub_var _ h2
  have : piT ρc u = x := by unfold piT; rw [x1]
  rw [this]
  exact ⟨x1, x2⟩
theorem vs_ren {π : Nat → Nat} : ∀ t : Tr, vs (sub (fun u => vr (π u)) t) = (vs t).map π
  | .tag n (.append a b) => by
    show vs (sub _ a) ++ vs (sub _ b) = (vs a ++ vs b).map π
    rw [vs_ren a, vs_ren b, List.map_append]
  | .tag n .line => rfl
  | .tag n .nil => rfl
  | .tag n (.align _) => rfl
  | .tag n (.text _) => rfl
  | .tag n (.nest _ _) => rfl
  | .tag n (.group _ _) => rfl
  | .tag n (.tag _ _) => rfl
  | .nil => rfl
  | .line => rfl
  | .align _ => rfl
  | .text _ => rfl
  | .nest _ _ => rfl
  | .append _ _ => rfl
  | .group _ _ => rfl
theorem tht_ren {π : Nat → Nat} : ∀ t : Tr, tht (sub (fun u => vr (π u)) t) = tht t
  | .tag n (.append a b) => by
    show 1 + max (tht (sub _ a)) (tht (sub _ b)) = 1 + max (tht a) (tht b)
    rw [tht_ren a, tht_ren b]
  | .tag n .line => rfl
  | .tag n .nil => rfl
  | .tag n (.align _) => rfl
  | .tag n (.text _) => rfl
  | .tag n (.nest _ _) => rfl
  | .tag n (.group _ _) => rfl
  | .tag n (.tag _ _) => rfl
  | .nil => rfl
  | .line => rfl
  | .align _ => rfl
  | .text _ => rfl
  | .nest _ _ => rfl
  | .append _ _ => rfl
  | .group _ _ => rfl
theorem addV_map {π : Nat → Nat} : ∀ (r l : List Nat), (∀ u v, u ∈ l ++ r → v ∈ l ++ r → π u = π v → u = v) → addV (l.map π) (r.map π) = (addV l r).map π := by
  intro r
  induction r with
  | nil => intro l _; rfl
  | cons x r ih =>
    intro l h
    show addV (if π x ∈ l.map π then l.map π else l.map π ++ [π x]) (r.map π) = (addV (if x ∈ l then l else l ++ [x]) r).map π
    have e : (if π x ∈ l.map π then l.map π else l.map π ++ [π x]) = (if x ∈ l then l else l ++ [x]).map π := by
      by_cases q : x ∈ l
      · rw [if_pos q, if_pos (List.mem_map.mpr ⟨x, q, rfl⟩)]
      · rw [if_neg q, if_neg, List.map_append]
        · rfl
        · intro z
          obtain ⟨y, y1, y2⟩ := List.mem_map.mp z
          have : y = x := h y x (List.mem_append.mpr (Or.inl y1)) (List.mem_append.mpr (Or.inr List.mem_cons_self)) y2
          rw [this] at y1
          exact q y1
    rw [e]
    have m : ∀ u, u ∈ (if x ∈ l then l else l ++ [x]) ++ r → u ∈ l ++ x :: r := fun u hu => by
      rcases List.mem_append.mp hu with z | z
      · by_cases q : x ∈ l
        · rw [if_pos q] at z
          exact List.mem_append.mpr (Or.inl z)
        · rw [if_neg q] at z
          rcases List.mem_append.mp z with z | z
          · exact List.mem_append.mpr (Or.inl z)
          · rw [List.mem_singleton.mp z]
            exact List.mem_append.mpr (Or.inr List.mem_cons_self)
      · exact List.mem_append.mpr (Or.inr (List.mem_cons_of_mem _ z))
    exact ih _ (fun u v hu hv e => h u v (m u hu) (m v hv) e)
theorem ix_map {π : Nat → Nat} {u : Nat} : ∀ l : List Nat, u ∈ l → (∀ v, v ∈ l → π v = π u → v = u) → ix (l.map π) (π u) = ix l u := by
  intro l
  induction l with
  | nil => intro h; cases h
  | cons x l ih =>
    intro h hi
    show (if π x = π u then 0 else ix (l.map π) (π u) + 1) = if x = u then 0 else ix l u + 1
    by_cases e : x = u
    · rw [if_pos e, if_pos (by rw [e])]
    · rw [if_neg e, if_neg (fun z => e (hi x List.mem_cons_self z)), ih ((List.mem_cons.mp h).resolve_left (fun z => e z.symm)) (fun v hv => hi v (List.mem_cons_of_mem _ hv))]
/-- names of the two, and how trees of one are trees of the other -/
def Rn (β : Be) (ρr ρc : Nat → Tr) (π : Nat → Nat) : Prop :=
  (∀ v, v < 8 → ρc v = sub (fun u => vr (π u)) (ρr v)) ∧ (∀ u v, u < 8 → v < 8 → (β u).1 = 2000 → (β v).1 = 2000 → π u = π v → u = v) ∧ ∀ u, u < 8 → (β u).1 = 2000 → ρc u = vr (π u)
theorem Rn.of {B : Bk} (G : GB B) {β : Be} (gb : Gb B β) {ρc : Nat → Tr} (h1 : ∀ v, v < 8 → sub ρc (ρB B β v) = ρc v) (h2 : ∀ v, v < 8 → sub (ρB B β) (ρc v) = ρB B β v) : Rn β (ρB B β) ρc (piT ρc) := by
  have ok : ∀ u, u < 8 → (β u).1 = 2000 → ρc u = vr (piT ρc u) ∧ ρB B β (piT ρc u) = vr u := fun u hu hb => pi_ok (h2 u hu) (ρB_un G gb hu hb)
  refine ⟨fun v hv => ?_, fun u v hu hv bu bv e => ?_, fun u hu hb => (ok u hu hb).1⟩
  · rw [← h1 v hv]
    refine sub_cg _ (fun u hu => ?_)
    obtain ⟨x1, x2⟩ := ρB_vs G gb v hv u hu
    exact (ok u x1 x2).1
  · have a := (ok u hu bu).2
    have b := (ok v hv bv).2
    rw [e, b] at a
    cases a
    rfl
theorem Rn.tv {B : Bk} (G : GB B) {β : Be} {ρr ρc : Nat → Tr} {π : Nat → Nat} (h : Rn β ρr ρc π) {t m : Nat} (hvt : VT B t m) : tv B ρc m t = sub (fun u => vr (π u)) (tv B ρr m t) := by
  rw [tv_sub G (t + 1) t (by omega) hvt.1]
  exact tv_cg G (t + 1) t (by omega) hvt.1 (fun u hu hc => h.1 _ (hvt.ix hu hc).2)
