/-! bindings of variables, one by the other -/
abbrev Be : Type := Nat → Nat × Nat
def VT (B : Bk) (t m : Nat) : Prop := t < nB B ∧ szB B t ≤ 30 ∧ (∀ v, 4 ≤ v → v < 8 → ctB B t v = 0) ∧ (m = 0 ∨ m = 4)
/-- some rank falls along the bindings -/
def Gb (B : Bk) (β : Be) : Prop := (∀ v, v < 8 → (β v).1 = 2000 ∨ VT B (β v).1 (β v).2) ∧ ∃ r : Nat → Nat, ∀ v, v < 8 → (β v).1 ≠ 2000 → ∀ u, u < 8 → 0 < ctB B (β v).1 u → r (u + (β v).2) < r v
def sat (B : Bk) (β : Be) (ρ : Nat → Tr) : Prop := ∀ v, v < 8 → (β v).1 ≠ 2000 → ρ v = tv B ρ (β v).2 (β v).1
theorem VT.ix {B : Bk} {t m u : Nat} (h : VT B t m) (hu : u < 8) (hc : 0 < ctB B t u) : u < 4 ∧ u + m < 8 := by
  have : u < 4 := by
    apply Decidable.byContradiction
    intro z
    have := h.2.2.1 u (by omega) hu
    omega
  rcases h.2.2.2 with z | z <;> omega
theorem VT.pa {B : Bk} (G : GB B) {t m : Nat} (h : VT B t m) : (1 ≤ npB B t → VT B (aB B t) m) ∧ (2 ≤ npB B t → VT B (bB B t) m) ∧ (10 ≤ hB B t → hB B t - 10 < 4 ∧ hB B t - 10 + m < 8) := by
  obtain ⟨h1, h2, h3, h4⟩ := id h
  refine ⟨fun q => ?_, fun q => ?_, fun q => ?_⟩
  · have := sz_a G h1 h2 q
    exact ⟨this.1, by omega, fun v h5 h6 => (ct_up G h1 h6 (h3 v h5 h6)).1 q, h4⟩
  · have := sz_b G h1 h2 q
    exact ⟨this.1, by omega, fun v h5 h6 => (ct_up G h1 h6 (h3 v h5 h6)).2.1 q, h4⟩
  · have hal := G.a_le h1
    have := h.ix (u := hB B t - 10) (by omega) ((ct_pos G h1 (by omega)).2.2 (by omega))
    exact this
/-! ranks, counted -/
def cl8 (r : Nat → Nat) (x : Nat) : Nat → Nat
  | 0 => 0
  | n + 1 => cl8 r x n + (if r n < x then 1 else 0)
theorem cl8_le {r : Nat → Nat} {x : Nat} : ∀ n, cl8 r x n ≤ n := by
  intro n
  induction n with
  | zero => exact Nat.le_refl _
  | succ n ih => unfold cl8; split <;> omega
theorem cl8_mono {r : Nat → Nat} {x y : Nat} (h : x ≤ y) : ∀ n, cl8 r x n ≤ cl8 r y n := by
  intro n
  induction n with
  | zero => exact Nat.le_refl _
  | succ n ih => unfold cl8; split <;> split <;> omega
theorem cl8_lt {r : Nat → Nat} {x y u : Nat} (h : x ≤ y) (h1 : ¬ r u < x) (h2 : r u < y) : ∀ n, u < n → cl8 r x n < cl8 r y n := by
  intro n
  induction n with
  | zero => intro hu; omega
  | succ n ih =>
    intro hu
    unfold cl8
    by_cases e : u = n
    · rw [← e, if_neg h1, if_pos h2]
      have := cl8_mono (r := r) h u
      omega
    · have := ih (by omega)
      split <;> split <;> omega
theorem cl8_lt7 {r : Nat → Nat} {x u : Nat} (h : ¬ r u < x) : ∀ n, u < n → cl8 r x n < n := by
  intro n
  induction n with
  | zero => intro hu; omega
  | succ n ih =>
    intro hu
    unfold cl8
    by_cases e : u = n
    · rw [← e, if_neg h]
      have := cl8_le (r := r) (x := x) u
      omega
    · have := ih (by omega)
      split <;> omega
theorem Gb.rk {B : Bk} {β : Be} (h : Gb B β) : ∃ r : Nat → Nat, (∀ v, v < 8 → r v ≤ 7) ∧ ∀ v, v < 8 → (β v).1 ≠ 2000 → ∀ u, u < 8 → 0 < ctB B (β v).1 u → r (u + (β v).2) < r v := by
  obtain ⟨h1, r, h2⟩ := h
  refine ⟨fun v => cl8 r (r v) 8, fun v hv => Nat.le_of_lt_succ (cl8_lt7 (u := v) (Nat.lt_irrefl _) 8 hv), fun v hv hb u hu hc => ?_⟩
  have hvt := (h1 v hv).resolve_left hb
  have := h2 v hv hb u hu hc
  exact cl8_lt (Nat.le_of_lt this) (Nat.lt_irrefl _) this 8 (hvt.ix hu hc).2
/-! the bindings, resolved -/
def rsF (B : Bk) (β : Be) : Nat → Nat → Tr
  | 0 => fun v => vr v
  | f + 1 => fun v => if (β v).1 = 2000 then vr v else tv B (rsF B β f) (β v).2 (β v).1
def ρB (B : Bk) (β : Be) : Nat → Tr := rsF B β 9
theorem rsF_st {B : Bk} (G : GB B) {β : Be} {r : Nat → Nat} (h1 : ∀ v, v < 8 → (β v).1 = 2000 ∨ VT B (β v).1 (β v).2) (h2 : ∀ v, v < 8 → (β v).1 ≠ 2000 → ∀ u, u < 8 → 0 < ctB B (β v).1 u → r (u + (β v).2) < r v) : ∀ k f g v, v < 8 → r v < k → r v < f → r v < g → rsF B β f v = rsF B β g v := by
  intro k
  induction k with
  | zero => intro f g v _ h; omega
  | succ k ih =>
    intro f g v hv h hf hg
    obtain ⟨f, rfl⟩ : ∃ f2, f = f2 + 1 := ⟨f - 1, by omega⟩
    obtain ⟨g, rfl⟩ : ∃ g2, g = g2 + 1 := ⟨g - 1, by omega⟩
    unfold rsF
    by_cases q : (β v).1 = 2000
    · rw [if_pos q, if_pos q]
    · rw [if_neg q, if_neg q]
      have hvt := (h1 v hv).resolve_left q
      refine tv_cg G ((β v).1 + 1) _ (by omega) hvt.1 (fun u hu hc => ?_)
      have := h2 v hv q u hu hc
      exact ih f g _ (hvt.ix hu hc).2 (by omega) (by omega) (by omega)
theorem ρB_eq {B : Bk} (G : GB B) {β : Be} (h : Gb B β) {v : Nat} (hv : v < 8) : ρB B β v = if (β v).1 = 2000 then vr v else tv B (ρB B β) (β v).2 (β v).1 := by
  obtain ⟨r, r1, r2⟩ := h.rk
  have e : ρB B β v = if (β v).1 = 2000 then vr v else tv B (rsF B β 8) (β v).2 (β v).1 := rfl
  rw [e]
  by_cases q : (β v).1 = 2000
  · rw [if_pos q, if_pos q]
  · rw [if_neg q, if_neg q]
    have hvt := (h.1 v hv).resolve_left q
    refine tv_cg G ((β v).1 + 1) _ (by omega) hvt.1 (fun u hu hc => ?_)
    have a := r2 v hv q u hu hc
    have b := r1 v hv
    exact rsF_st G h.1 r2 9 8 9 _ (hvt.ix hu hc).2 (by omega) (by omega) (by omega)
theorem ρB_sat {B : Bk} (G : GB B) {β : Be} (h : Gb B β) : sat B β (ρB B β) := fun v hv hb => by
  have := ρB_eq G h hv
  rw [if_neg hb] at this
  exact this
theorem ρB_un {B : Bk} (G : GB B) {β : Be} (h : Gb B β) {v : Nat} (hv : v < 8) (hu : (β v).1 = 2000) : ρB B β v = vr v := by
  rw [ρB_eq G h hv, if_pos hu]
theorem ρB_ht {B : Bk} (G : GB B) {β : Be} (h : Gb B β) : ∀ v, v < 8 → tht (ρB B β v) ≤ 240 := by
  obtain ⟨r, r1, r2⟩ := h.rk
  have key : ∀ k v, v < 8 → r v < k → tht (ρB B β v) ≤ 30 * r v + 30 := by
    intro k
    induction k with
    | zero => intro v _ h; omega
    | succ k ih =>
      intro v hv hk
      rw [ρB_eq G h hv]
      by_cases q : (β v).1 = 2000
      · rw [if_pos q]
        show 1 ≤ _
        omega
      · rw [if_neg q]
        have hvt := (h.1 v hv).resolve_left q
        have := tv_ht G (ρ := ρB B β) (m := (β v).2) (H := 30 * r v) ((β v).1 + 1) _ (by omega) hvt.1 hvt.2.1 (fun u hu hc => by
          have a := r2 v hv q u hu hc
          have := ih (u + (β v).2) (hvt.ix hu hc).2 (by omega)
          omega)
        have := hvt.2.1
        omega
  intro v hv
  have := key (r v + 1) v hv (by omega)
  have := r1 v hv
  omega
theorem tv_ht270 {B : Bk} (G : GB B) {β : Be} (h : Gb B β) {t m : Nat} (hvt : VT B t m) : tht (tv B (ρB B β) m t) ≤ 270 := by
  have := tv_ht G (ρ := ρB B β) (m := m) (H := 240) (t + 1) t (by omega) hvt.1 hvt.2.1 (fun u hu hc => ρB_ht G h _ (hvt.ix hu hc).2)
  have := hvt.2.1
  omega
/-- every solution is an instance of the resolved bindings -/
theorem sat_sub {B : Bk} (G : GB B) {β : Be} (h : Gb B β) {ρ : Nat → Tr} (hs : sat B β ρ) : ∀ v, v < 8 → sub ρ (ρB B β v) = ρ v := by
  obtain ⟨r, r1, r2⟩ := h.rk
  have key : ∀ k v, v < 8 → r v < k → sub ρ (ρB B β v) = ρ v := by
    intro k
    induction k with
    | zero => intro v _ h; omega
    | succ k ih =>
      intro v hv hk
      rw [ρB_eq G h hv]
      by_cases q : (β v).1 = 2000
      · rw [if_pos q]; rfl
      · rw [if_neg q]
        have hvt := (h.1 v hv).resolve_left q
        rw [tv_sub G ((β v).1 + 1) _ (by omega) hvt.1, hs v hv q]
        refine tv_cg G ((β v).1 + 1) _ (by omega) hvt.1 (fun u hu hc => ?_)
        have a := r2 v hv q u hu hc
        exact ih _ (hvt.ix hu hc).2 (by omega)
  intro v hv
  exact key (r v + 1) v hv (by omega)
theorem sat_tv {B : Bk} (G : GB B) {β : Be} (h : Gb B β) {ρ : Nat → Tr} (hs : sat B β ρ) {t m : Nat} (hvt : VT B t m) : sub ρ (tv B (ρB B β) m t) = tv B ρ m t := by
  rw [tv_sub G (t + 1) t (by omega) hvt.1]
  exact tv_cg G (t + 1) t (by omega) hvt.1 (fun u hu hc => sat_sub G h hs _ (hvt.ix hu hc).2)
/-- resolved trees have variables that are not bound -/
theorem ρB_vs {B : Bk} (G : GB B) {β : Be} (h : Gb B β) : ∀ v, v < 8 → ∀ u, u ∈ vs (ρB B β v) → u < 8 ∧ (β u).1 = 2000 := by
  obtain ⟨r, r1, r2⟩ := h.rk
  have key : ∀ k v, v < 8 → r v < k → ∀ u, u ∈ vs (ρB B β v) → u < 8 ∧ (β u).1 = 2000 := by
    intro k
    induction k with
    | zero => intro v _ h; omega
    | succ k ih =>
      intro v hv hk u hu
      rw [ρB_eq G h hv] at hu
      by_cases q : (β v).1 = 2000
      · rw [if_pos q] at hu
        have : u = v := List.mem_singleton.mp hu
        rw [this]
        exact ⟨hv, q⟩
      · rw [if_neg q] at hu
        have hvt := (h.1 v hv).resolve_left q
        obtain ⟨x, x1, x2, x3⟩ := (tv_vs G ((β v).1 + 1) _ (by omega) hvt.1).mp hu
        exact ih _ (hvt.ix x1 x2).2 (by have := r2 v hv q x x1 x2; omega) u x3
  intro v hv
  exact key (r v + 1) v hv (by omega)
/-- a new binding -/
theorem Gb.bind {B : Bk} (G : GB B) {β : Be} (h : Gb B β) {v t m : Nat} (hv : v < 8) (hu : (β v).1 = 2000) (hvt : VT B t m) (hno : v ∉ vs (tv B (ρB B β) m t)) : Gb B (fu β v (t, m)) := by
  have h0 := h
  obtain ⟨h1, r, h2⟩ := h
  refine ⟨fun x hx => ?_, ?_⟩
  · by_cases e : x = v
    · rw [e, fu_s]; exact Or.inr hvt
    · rw [fu_n e]; exact h1 x hx
  · refine ⟨fun x => if v ∈ vs (ρB B β x) then r x + (1 + (r 0 + r 1 + r 2 + r 3 + r 4 + r 5 + r 6 + r 7)) else r x, fun x hx hb u hux hc => ?_⟩
    have big : ∀ y, y < 8 → r y ≤ r 0 + r 1 + r 2 + r 3 + r 4 + r 5 + r 6 + r 7 := fun y hy => by
      have : y = 0 ∨ y = 1 ∨ y = 2 ∨ y = 3 ∨ y = 4 ∨ y = 5 ∨ y = 6 ∨ y = 7 := by omega
      rcases this with q | q | q | q | q | q | q | q <;> rw [q] <;> omega
    by_cases e : x = v
    · rw [e, fu_s] at hb hc ⊢
      have ix := (hvt.ix hux hc).2
      have n1 : v ∉ vs (ρB B β (u + m)) := fun z => hno ((tv_vs G (t + 1) t (by omega) hvt.1).mpr ⟨u, hux, hc, z⟩)
      have n2 : v ∈ vs (ρB B β v) := by rw [ρB_un G h0 hv hu]; exact List.mem_singleton.mpr rfl
      show (if v ∈ vs (ρB B β (u + m)) then _ else r (u + m)) < (if v ∈ vs (ρB B β v) then _ else r v)
      rw [if_neg n1, if_pos n2]
      have := big (u + m) ix
      omega
    · rw [fu_n e] at hb hc ⊢
      have hxt := (h1 x hx).resolve_left hb
      have lt := h2 x hx hb u hux hc
      show (if v ∈ vs (ρB B β (u + (β x).2)) then r (u + (β x).2) + (1 + (r 0 + r 1 + r 2 + r 3 + r 4 + r 5 + r 6 + r 7)) else r (u + (β x).2)) < (if v ∈ vs (ρB B β x) then r x + (1 + (r 0 + r 1 + r 2 + r 3 + r 4 + r 5 + r 6 + r 7)) else r x)
      by_cases q : v ∈ vs (ρB B β (u + (β x).2))
      · have q2 : v ∈ vs (ρB B β x) := by
          rw [ρB_eq G h0 hx, if_neg hb]
          exact (tv_vs G ((β x).1 + 1) _ (by omega) hxt.1).mpr ⟨u, hux, hc, q⟩
        rw [if_pos q, if_pos q2]
        omega
      · rw [if_neg q]
        split <;> omega
theorem sat_bind {B : Bk} {β : Be} {v t m : Nat} {ρ : Nat → Tr} (hv : v < 8) (hu : (β v).1 = 2000) (ht : t ≠ 2000) : sat B (fu β v (t, m)) ρ ↔ (sat B β ρ ∧ ρ v = tv B ρ m t) := by
  constructor
  · intro h
    refine ⟨fun x hx hb => ?_, ?_⟩
    · have := h x hx
      rw [fu_n (fun z => hb (by rw [z]; exact hu))] at this
      exact this hb
    · have := h v hv
      rw [fu_s] at this
      exact this ht
  · rintro ⟨h1, h2⟩ x hx hb
    by_cases e : x = v
    · rw [e, fu_s]; exact h2
    · rw [fu_n e] at hb ⊢
      exact h1 x hx hb
def extB (β β2 : Be) : Prop := ∀ v, v < 8 → (β v).1 ≠ 2000 → β2 v = β v
theorem extB.sat {B : Bk} {β β2 : Be} (e : extB β β2) {ρ : Nat → Tr} (h : sat B β2 ρ) : sat B β ρ := fun v hv hb => by
  have := h v hv
  rw [e v hv hb] at this
  exact this hb
