/-! places, trees with another at a place -/
theorem lc_lt {a b : Nat} (ha : a < 2 ^ 63) (hb : b < 2 ^ 63) : lg_cmp (lN a) (lN b) < 0 ↔ a < b := by
  unfold lg_cmp
  by_cases h1 : b < a
  · rw [if_pos ((pk_lLT hb ha).mpr h1)]
    exact ⟨fun h => absurd h (by decide), fun h => by omega⟩
  · rw [if_neg (fun q => h1 ((pk_lLT hb ha).mp q))]
    by_cases h2 : a = b
    · rw [if_pos (by rw [h2])]
      exact ⟨fun h => absurd h (by decide), fun h => by omega⟩
    · rw [if_neg (fun q => h2 ((pk_lEQ ha hb).mp q))]
      exact ⟨fun _ => by omega, fun _ => by decide⟩
theorem blw_n {p i : Nat} (hp : 1 ≤ p) (hi : i ≤ 1) (h : 3 * p + i < 100000000000000000) : blw (lN p) (nI i) = lN (3 * p + i) := by
  have e1 : (3 : Int64) * lN p = lN (3 * p) := by
    rw [show (3 : Int64) = 1 + 1 + 1 from rfl, Int64.add_mul, Int64.add_mul, Int64.one_mul, lN_add, lN_add]
    congr 1
    omega
  have e2 : (nI i).toInt64 = lN i := by
    have : i = 0 ∨ i = 1 := by omega
    rcases this with z | z <;> rw [z] <;> rfl
  unfold blw
  rw [e1, e2, lN_add, if_neg (by rw [lg_cmp_eq, show (0 : Int64) = lN 0 from rfl, pk_lEQ (by omega) (by omega)]; omega), if_pos (by rw [show (100000000000000000 : Int64) = lN 100000000000000000 from rfl, lc_lt (by omega) (by omega)]; exact h)]
def PB (p k : Nat) : Prop := 1 ≤ p ∧ (p + 1) * 3 ^ k ≤ 411782264189298
theorem PB.dn {p k i : Nat} (hi : i ≤ 1) (h : PB p (k + 1)) : PB (3 * p + i) k := by
  obtain ⟨h1, h2⟩ := h
  refine ⟨by omega, Nat.le_trans ?_ h2⟩
  rw [Nat.pow_succ, Nat.mul_comm (3 ^ k) 3, ← Nat.mul_assoc]
  exact Nat.mul_le_mul_right _ (by omega)
theorem PB.lt {p k : Nat} (h : PB p k) : p + 1 ≤ 411782264189298 := Nat.le_trans (Nat.le_mul_of_pos_right _ (Nat.pow_pos (by decide))) h.2
theorem PB.bl {p k i : Nat} (hi : i ≤ 1) (h : PB p (k + 1)) : blw (lN p) (nI i) = lN (3 * p + i) := by
  have := (h.dn hi).lt
  exact blw_n h.1 hi (by omega)
theorem rp_out {B : Bk} (G : GB B) {β : Be} {other at' : Nat} (ha : at' < 2 ^ 62) : ∀ k t p, VT B t 0 → szB B t ≤ k → PB p k → ¬ Und p at' → rpF B β other (lN at') k t (lN p) = TR B β 0 t := by
  intro k
  induction k with
  | zero => intro t p hvt hs; have := (G.sz_le hvt.1).2.1; omega
  | succ k ih =>
    intro t p hvt hs pb un
    have vp := hvt.pa G
    have pl := pb.lt
    unfold rpF
    rw [if_neg (fun z => un (by rw [(pk_lEQ (by omega) (by omega)).mp z]; exact Und.rf))]
    show _ = tv B (ρB B β) 0 t
    rw [tv_eq G hvt.1]
    by_cases q1 : hB B t < 10
    · rw [if_pos q1, if_pos q1]
      have e0 : blw (lN p) 0 = lN (3 * p + 0) := pb.bl (i := 0) (by omega)
      have e1 : blw (lN p) 1 = lN (3 * p + 1) := pb.bl (i := 1) (by omega)
      have h1 : (if 1 ≤ npB B t then rpF B β other (lN at') k (aB B t) (blw (lN p) 0) else no) = (if 1 ≤ npB B t then tv B (ρB B β) 0 (aB B t) else no) := by
        by_cases q : 1 ≤ npB B t
        · have := sz_a G hvt.1 hvt.2.1 q
          rw [if_pos q, if_pos q, e0]
          exact ih _ _ (vp.1 q) (by omega) (pb.dn (by omega)) (fun z => un (z.up (by omega)))
        · rw [if_neg q, if_neg q]
      have h2 : (if 2 ≤ npB B t then rpF B β other (lN at') k (bB B t) (blw (lN p) 1) else no) = (if 2 ≤ npB B t then tv B (ρB B β) 0 (bB B t) else no) := by
        by_cases q : 2 ≤ npB B t
        · have := sz_b G hvt.1 hvt.2.1 q
          rw [if_pos q, if_pos q, e1]
          exact ih _ _ (vp.2.1 q) (by omega) (pb.dn (by omega)) (fun z => un (z.up (by omega)))
        · rw [if_neg q, if_neg q]
      rw [h1, h2]
    · rw [if_neg q1, if_neg q1]
      show tv B (ρB B β) 0 t = _
      rw [tv_eq G hvt.1, if_neg q1]
theorem rp_ht {B : Bk} (G : GB B) {β : Be} (gb : Gb B β) {other : Nat} {at' : Int64} (ho : VT B other 4) : ∀ k t p, VT B t 0 → tht (rpF B β other at' k t p) ≤ k + 270 := by
  intro k
  induction k with
  | zero => intro t p _; show 0 ≤ _; omega
  | succ k ih =>
    intro t p hvt
    have vp := hvt.pa G
    unfold rpF
    split
    · have := tv_ht270 G gb ho
      show tht (tv B (ρB B β) 4 other) ≤ _
      omega
    · split
      · show 1 + max (tht _) (tht _) ≤ _
        have h1 : tht (if 1 ≤ npB B t then rpF B β other at' k (aB B t) (blw p 0) else no) ≤ k + 270 := by
          split
          · rename_i q; exact ih _ _ (vp.1 q)
          · show 0 ≤ _; omega
        have h2 : tht (if 2 ≤ npB B t then rpF B β other at' k (bB B t) (blw p 1) else no) ≤ k + 270 := by
          split
          · rename_i q; exact ih _ _ (vp.2.1 q)
          · show 0 ≤ _; omega
        omega
      · have := tv_ht270 G gb hvt
        show tht (tv B (ρB B β) 0 t) ≤ _
        omega
theorem rp_vs {B : Bk} (G : GB B) {β : Be} {other : Nat} {at' : Int64} {u : Nat} : ∀ k t p, VT B t 0 → u ∈ vs (rpF B β other at' k t p) → u ∈ vs (TR B β 4 other) ∨ u ∈ vs (TR B β 0 t) := by
  intro k
  induction k with
  | zero => intro t p _ h; cases h
  | succ k ih =>
    intro t p hvt h
    have vp := hvt.pa G
    unfold rpF at h
    split at h
    · exact Or.inl h
    · split at h
      · rename_i q1
        have e : vs (TR B β 0 t) = vs (if 1 ≤ npB B t then tv B (ρB B β) 0 (aB B t) else no) ++ vs (if 2 ≤ npB B t then tv B (ρB B β) 0 (bB B t) else no) := by
          show vs (tv B (ρB B β) 0 t) = _
          rw [tv_eq G hvt.1, if_pos q1]
          rfl
        rw [e]
        rcases List.mem_append.mp h with z | z
        · by_cases q : 1 ≤ npB B t
          · rw [if_pos q] at z ⊢
            rcases ih _ _ (vp.1 q) z with y | y
            · exact Or.inl y
            · exact Or.inr (List.mem_append.mpr (Or.inl y))
          · rw [if_neg q] at z; cases z
        · by_cases q : 2 ≤ npB B t
          · rw [if_pos q] at z
            rcases ih _ _ (vp.2.1 q) z with y | y
            · exact Or.inl y
            · rw [if_pos q]; exact Or.inr (List.mem_append.mpr (Or.inr y))
          · rw [if_neg q] at z; cases z
      · exact Or.inr h
/-! the sheet, when the bank grows -/
theorem NdW.ext {B B2 : Bk} {s : Sht} {lo hi x : Nat} {w : Wd} (G : GB B) (e : Ext B B2) (h : NdW B s lo hi w x) : NdW B2 s lo hi w x := by
  obtain ⟨c1, c2, c3, c4, c5, c6, c7, c8, c9, M, m1, m2, m3⟩ := h
  have et := e.2.2.2.2 _ c1.1
  have np : npB B2 (tmS s x) = npB B (tmS s x) := e.np c1.1
  have vp := c1.pa G
  have ch : ∀ y t m, VT B t m → Chd B s lo hi y t m → Chd B2 s lo hi y t m := fun y t m hvt h => by
    have e2 := e.2.2.2.2 t hvt.1
    unfold Chd
    rw [e2.1]
    exact h
  unfold NdW
  rw [np, et.1, et.2.1, et.2.2.1, et.2.2.2.2.2]
  exact ⟨c1.ext e, c2, fun q => ch _ _ _ (vp.1 q) (c3 q), c4, fun q => ch _ _ _ (vp.2.1 q) (c5 q), c6, c7, c8, c9, M, m1, m2, m3⟩
theorem SW.ext {B B2 : Bk} {s : Sht} {n : Nat} {w : Wd} (G : GB B) (e : Ext B B2) (h : SW B s n w) : SW B2 s n w := fun x h1 h2 => (h x h1 h2).ext G e
/-- the way from the first node to one -/
def Pth (B : Bk) (s : Sht) (n root : Nat) : List (Nat × Nat) → Nat → Nat → Nat → Nat → Prop
  | [] => fun x t p k => x = 8 ∧ t = root ∧ p = 1 ∧ k = 30
  | (o, i) :: r => fun _ t p k => ∃ po, Pth B s n root r o (tmS s o) po (k + 1) ∧ 8 ≤ o ∧ o < n ∧ msS s o = 0 ∧ ((i = 0 ∧ 1 ≤ npB B (tmS s o) ∧ t = aB B (tmS s o) ∧ p = 3 * po + 0) ∨ (i = 1 ∧ 2 ≤ npB B (tmS s o) ∧ t = bB B (tmS s o) ∧ p = 3 * po + 1))
theorem Pth.len {B : Bk} {s : Sht} {n root : Nat} : ∀ l x t p k, Pth B s n root l x t p k → k + l.length = 30 := by
  intro l
  induction l with
  | nil => intro x t p k h; rw [h.2.2.2]; rfl
  | cons y r ih =>
    obtain ⟨o, i⟩ := y
    intro x t p k h
    obtain ⟨po, h1, _⟩ := h
    have := ih _ _ _ _ h1
    rw [List.length_cons]
    omega
theorem Pth.vt {B : Bk} (G : GB B) {s : Sht} {n root : Nat} (hr : VT B root 0) : ∀ l x t p k, Pth B s n root l x t p k → VT B t 0 ∧ szB B t ≤ k ∧ PB p k := by
  intro l
  induction l with
  | nil =>
    intro x t p k h
    obtain ⟨h1, h2, h3, h4⟩ := h
    rw [h2, h3, h4]
    exact ⟨hr, hr.2.1, Nat.le_refl 1, by decide⟩
  | cons y r ih =>
    obtain ⟨o, i⟩ := y
    intro x t p k h
    obtain ⟨po, h1, h2, h3, h4, h5⟩ := h
    obtain ⟨v1, v2, v3⟩ := ih _ _ _ _ h1
    have vp := v1.pa G
    rcases h5 with ⟨a1, a2, a3, a4⟩ | ⟨a1, a2, a3, a4⟩
    · have := sz_a G v1.1 v1.2.1 a2
      rw [a3, a4]
      exact ⟨vp.1 a2, by omega, v3.dn (by omega)⟩
    · have := sz_b G v1.1 v1.2.1 a2
      rw [a3, a4]
      exact ⟨vp.2.1 a2, by omega, v3.dn (by omega)⟩
theorem Pth.ct {B : Bk} (G : GB B) {s : Sht} {n root v : Nat} (hv : v < 8) (hr : VT B root 0) : ∀ l x t p k, Pth B s n root l x t p k → 0 < ctB B t v → 0 < ctB B root v := by
  intro l
  induction l with
  | nil => intro x t p k h hc; rw [← h.2.1]; exact hc
  | cons y r ih =>
    obtain ⟨o, i⟩ := y
    intro x t p k h hc
    obtain ⟨po, h1, h2, h3, h4, h5⟩ := h
    have v1 := (Pth.vt G hr _ _ _ _ _ h1).1
    have cp := ct_pos G v1.1 hv
    rcases h5 with ⟨a1, a2, a3, a4⟩ | ⟨a1, a2, a3, a4⟩
    · rw [a3] at hc
      exact ih _ _ _ _ h1 (cp.1 a2 hc)
    · rw [a3] at hc
      exact ih _ _ _ _ h1 (cp.2.1 a2 hc)
theorem Pth.ext {B B2 : Bk} (G : GB B) (e : Ext B B2) {s : Sht} {n root : Nat} (hr : VT B root 0) : ∀ l x t p k, Pth B s n root l x t p k → Pth B2 s n root l x t p k := by
  intro l
  induction l with
  | nil => intro x t p k h; exact h
  | cons y r ih =>
    obtain ⟨o, i⟩ := y
    intro x t p k h
    obtain ⟨po, h1, h2, h3, h4, h5⟩ := h
    have v1 := (Pth.vt G hr _ _ _ _ _ h1).1
    have et := e.2.2.2.2 _ v1.1
    exact ⟨po, ih _ _ _ _ h1, h2, h3, h4, by rw [e.np v1.1, et.2.1, et.2.2.1]; exact h5⟩
theorem Pth.rp {B : Bk} (G : GB B) {s : Sht} {n root other at' : Nat} {w : Wd} {β : Be} (sw : SW B s n w) (hn : n ≤ 158) (hr : VT B root 0) (ha : at' < 2 ^ 62) : ∀ l x t p k, Pth B s n root l x t p k → Und p at' →
    rpF B β other (lN at') 30 root (lN 1) = Kt (hdS B s) (f1S s) (f2S s) (nv B s (ρB B β)) l (rpF B β other (lN at') k t (lN p)) := by
  intro l
  induction l with
  | nil =>
    intro x t p k h _
    obtain ⟨h1, h2, h3, h4⟩ := h
    rw [h2, h3, h4]
    rfl
  | cons y r ih =>
    obtain ⟨o, i⟩ := y
    intro x t p k h hu
    obtain ⟨po, h1, h2, h3, h4, h5⟩ := h
    obtain ⟨v1, v2, v3⟩ := Pth.vt G hr _ _ _ _ _ h1
    have vp := v1.pa G
    obtain ⟨c1, c2, c3, c4, c5, c6, c7⟩ := sw o h2 h3
    rw [h4] at c3 c5
    have e0 : blw (lN po) 0 = lN (3 * po + 0) := v3.bl (i := 0) (by omega)
    have e1 : blw (lN po) 1 = lN (3 * po + 1) := v3.bl (i := 1) (by omega)
    have pl := v3.lt
    have up : Und po at' := by
      rcases h5 with ⟨a1, a2, a3, a4⟩ | ⟨a1, a2, a3, a4⟩
      · rw [a4] at hu; exact hu.up (by omega)
      · rw [a4] at hu; exact hu.up (by omega)
    have ne : po ≠ at' := by
      rcases h5 with ⟨a1, a2, a3, a4⟩ | ⟨a1, a2, a3, a4⟩
      · rw [a4] at hu; exact hu.ne v3.1
      · rw [a4] at hu; exact hu.ne v3.1
    rw [ih _ _ _ _ h1 up]
    have eo : rpF B β other (lN at') (k + 1) (tmS s o) (lN po) = nd (hdS B s o) (if 1 ≤ npB B (tmS s o) then rpF B β other (lN at') k (aB B (tmS s o)) (lN (3 * po + 0)) else no) (if 2 ≤ npB B (tmS s o) then rpF B β other (lN at') k (bB B (tmS s o)) (lN (3 * po + 1)) else no) := by
      have k0 : rpF B β other (lN at') (k + 1) (tmS s o) (lN po) = if lN po = lN at' then TR B β 4 other else if hB B (tmS s o) < 10 then nd (hB B (tmS s o)) (if 1 ≤ npB B (tmS s o) then rpF B β other (lN at') k (aB B (tmS s o)) (blw (lN po) 0) else no) (if 2 ≤ npB B (tmS s o) then rpF B β other (lN at') k (bB B (tmS s o)) (blw (lN po) 1) else no) else TR B β 0 (tmS s o) := rfl
      rw [k0, if_neg (fun z => ne ((pk_lEQ (by omega) (by omega)).mp z)), if_pos c2, e0, e1]
    rw [eo]
    show _ = Kt (hdS B s) (f1S s) (f2S s) (nv B s (ρB B β)) r (nd (hdS B s o) (if i = 0 then rpF B β other (lN at') k t (lN p) else nv B s (ρB B β) (f1S s o)) (if i = 1 then rpF B β other (lN at') k t (lN p) else nv B s (ρB B β) (f2S s o)))
    rcases h5 with ⟨a1, a2, a3, a4⟩ | ⟨a1, a2, a3, a4⟩
    · have x2 : (if 2 ≤ npB B (tmS s o) then rpF B β other (lN at') k (bB B (tmS s o)) (lN (3 * po + 1)) else no) = nv B s (ρB B β) (f2S s o) := by
        by_cases q : 2 ≤ npB B (tmS s o)
        · have := sz_b G v1.1 v1.2.1 q
          rw [if_pos q, (c5 q).nv G (vp.2.1 q) hn]
          exact rp_out G ha _ _ _ (vp.2.1 q) (by omega) (v3.dn (by omega)) (fun z => Und.two v3.1 (by rw [a4] at hu; exact hu) z)
        · rw [if_neg q, c6 q, nv_no]
      rw [x2, if_pos a2, if_pos a1, if_neg (by omega), a3, a4]
    · have x1 : (if 1 ≤ npB B (tmS s o) then rpF B β other (lN at') k (aB B (tmS s o)) (lN (3 * po + 0)) else no) = nv B s (ρB B β) (f1S s o) := by
        have q : 1 ≤ npB B (tmS s o) := by omega
        have := sz_a G v1.1 v1.2.1 q
        rw [if_pos q, (c3 q).nv G (vp.1 q) hn]
        exact rp_out G ha _ _ _ (vp.1 q) (by omega) (v3.dn (by omega)) (fun z => Und.two v3.1 z (by rw [a4] at hu; exact hu))
      rw [x1, if_pos a2, if_neg (by omega), if_pos a1, a3, a4]
/-- names changed within what stands round -/
theorem Kt_sub {hd f1 f2 : Nat → Nat} {T T2 : Nat → Tr} {ρ : Nat → Tr} : ∀ l τ, (∀ o i, (o, i) ∈ l → sub ρ (T (f1 o)) = T2 (f1 o) ∧ sub ρ (T (f2 o)) = T2 (f2 o)) → sub ρ (Kt hd f1 f2 T l τ) = Kt hd f1 f2 T2 l (sub ρ τ) := by
  intro l
  induction l with
  | nil => intro τ _; rfl
  | cons y r ih =>
    obtain ⟨o, i⟩ := y
    intro τ h
    show sub ρ (Kt hd f1 f2 T r _) = Kt hd f1 f2 T2 r _
    rw [ih _ (fun o i hm => h o i (List.mem_cons_of_mem _ hm)), sub_nd]
    obtain ⟨h1, h2⟩ := h o i List.mem_cons_self
    have e1 : sub ρ (if i = 0 then τ else T (f1 o)) = (if i = 0 then sub ρ τ else T2 (f1 o)) := by
      split
      · rfl
      · exact h1
    have e2 : sub ρ (if i = 1 then τ else T (f2 o)) = (if i = 1 then sub ρ τ else T2 (f2 o)) := by
      split
      · rfl
      · exact h2
    rw [e1, e2]
theorem Pth.mem {B : Bk} {s : Sht} {n root : Nat} : ∀ l x t p k, Pth B s n root l x t p k → ∀ o i, (o, i) ∈ l → 8 ≤ o ∧ o < n := by
  intro l
  induction l with
  | nil => intro x t p k _ o i h; cases h
  | cons y r ih =>
    obtain ⟨o, i⟩ := y
    intro x t p k h o2 i2 hm
    obtain ⟨po, h1, h2, h3, h4, h5⟩ := h
    rcases List.mem_cons.mp hm with z | z
    · cases z; exact ⟨h2, h3⟩
    · exact ih _ _ _ _ h1 o2 i2 z
/-- trees of the sheet may be made -/
theorem TS.wt {n : Nat} {hd f1 f2 bc : Nat → Nat} {T : Nat → Tr} {B : Bk} {num : Nat → Nat} (ts : TS n hd f1 f2 bc T) (ta : TA n hd f1 f2 B) : ∀ k x, tht (T x) ≤ k → x < n → (∀ u, u ∈ vs (T x) → num u < 8) → WT (sB B) (arB B) (nmT num (T x)) := by
  obtain ⟨t1, t2, t3, t4, t5⟩ := ts
  intro k
  induction k with
  | zero =>
    intro x hk hx
    exfalso
    obtain ⟨y2, y3, y4⟩ := t1 x hx
    rw [← y4] at hk
    by_cases z : bc x < 8
    · rw [t2 _ y2 y3 z] at hk
      exact absurd hk (by show ¬ 1 ≤ 0; omega)
    · rw [(t3 _ y2 (by omega)).1] at hk
      have : tht (nd (hd (bc x)) (T (f1 (bc x))) (T (f2 (bc x)))) = 1 + max (tht (T (f1 (bc x)))) (tht (T (f2 (bc x)))) := rfl
      omega
  | succ k ih =>
    intro x hk hx hu
    obtain ⟨y2, y3, y4⟩ := t1 x hx
    rw [← y4] at hk hu ⊢
    by_cases z : bc x < 8
    · rw [t2 _ y2 y3 z] at hu ⊢
      exact hu _ (List.mem_singleton.mpr rfl)
    · obtain ⟨e1, e2, e3⟩ := t3 _ y2 (by omega)
      obtain ⟨a1, a2, a3⟩ := ta _ (by omega) y2
      rw [e1] at hk hu ⊢
      have hh : tht (nd (hd (bc x)) (T (f1 (bc x))) (T (f2 (bc x)))) = 1 + max (tht (T (f1 (bc x)))) (tht (T (f2 (bc x)))) := rfl
      refine ⟨a1, fun q => ?_, fun q => ?_⟩
      · exact ih _ (by omega) (e2.resolve_right (a2.mp q)) (fun u h => hu u (List.mem_append.mpr (Or.inl h)))
      · exact ih _ (by omega) (e3.resolve_right (a3.mp q)) (fun u h => hu u (List.mem_append.mpr (Or.inr h)))
theorem SW.ta {B : Bk} {s : Sht} {n : Nat} {w : Wd} (G : GB B) (h : SW B s n w) (h8 : 8 ≤ n) (hn : n ≤ 158) : TA n (hdS B s) (f1S s) (f2S s) B := fun x x8 hx => by
  obtain ⟨c1, c2, c3, c4, c5, c6, c7⟩ := h x x8 hx
  have vp := c1.pa G
  refine ⟨by rcases (G.2.2.2.2.1 _ c1.1).1 with z | z <;> omega, ⟨fun q => ?_, fun q => ?_⟩, ⟨fun q => ?_, fun q => ?_⟩⟩
  · have := (c3 q).lt G (vp.1 q) h8
    omega
  · apply Decidable.byContradiction
    intro z
    exact q (c4 z)
  · have := (c5 q).lt G (vp.2.1 q) h8
    omega
  · apply Decidable.byContradiction
    intro z
    exact q (c6 z)
theorem TS.of {B : Bk} {s : Sht} {n a0 b0 : Nat} {bc rk : Nat → Nat} {w : Wd} (G : GB B) (h8 : 8 ≤ n) (hn : n ≤ 158) (sw : SW B s n w) (hb : BC n (hdS B s) (f1S s) (f2S s) a0 b0 bc) (h1 : ∀ v, rk v ≤ 8) (h2 : ∀ v u, v < 8 → u < 8 → Eg B s bc v u → rk u < rk v) : TS n (hdS B s) (f1S s) (f2S s) bc (nv B s (ρC B s bc)) := by
  have sh := sw.sh G h8 hn
  have hvt : ∀ v, v < 8 → 8 ≤ bc v → VT B (tmS s (bc v)) (msS s (bc v)) := fun v hv q => (sw _ q (hb.1 v (by omega)).1).1
  refine ⟨fun x hx => ?_, fun x hx e x8 => ?_, fun x hx x8 => ⟨nv_nd G sw hn x8 hx, (sh.2.2.1 x hx x8).1, (sh.2.2.1 x hx x8).2⟩, nv_no, hn⟩
  · obtain ⟨k1, k2, k3⟩ := hb.1 x hx
    exact ⟨k1, k2, ρC_sol G hn h8 sw hb h1 h2 _ _ k1 hx k2⟩
  · rw [nv_v x8, ρC_eq G hvt h1 h2 x8, e, if_pos x8]
