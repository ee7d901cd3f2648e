/-! trees: a sign with its parts, or a variable -/
abbrev Tr : Type := Std.Format
abbrev nd (h : Nat) (a b : Tr) : Tr := .tag h (.append a b)
abbrev vr (v : Nat) : Tr := .tag v .line
abbrev no : Tr := .nil
def sub (ρ : Nat → Tr) : Tr → Tr
  | .tag n (.append a b) => .tag n (.append (sub ρ a) (sub ρ b))
  | .tag n .line => ρ n
  | x => x
def tsz : Tr → Nat
  | .tag _ (.append a b) => 1 + tsz a + tsz b
  | .tag _ .line => 1
  | _ => 0
def tht : Tr → Nat
  | .tag _ (.append a b) => 1 + max (tht a) (tht b)
  | .tag _ .line => 1
  | _ => 0
/-- the variables, as they are met -/
def vs : Tr → List Nat
  | .tag _ (.append a b) => vs a ++ vs b
  | .tag v .line => [v]
  | _ => []
theorem sub_nd {ρ : Nat → Tr} {h : Nat} {a b : Tr} : sub ρ (nd h a b) = nd h (sub ρ a) (sub ρ b) := rfl
theorem sub_vr {ρ : Nat → Tr} {v : Nat} : sub ρ (vr v) = ρ v := rfl
theorem sub_no {ρ : Nat → Tr} : sub ρ no = no := rfl
theorem nd_inj {h h2 : Nat} {a b a2 b2 : Tr} (e : nd h a b = nd h2 a2 b2) : h = h2 ∧ a = a2 ∧ b = b2 := by
  cases e
  exact ⟨rfl, rfl, rfl⟩
theorem sub_sub {ρ σ : Nat → Tr} : ∀ t : Tr, sub ρ (sub σ t) = sub (fun v => sub ρ (σ v)) t
  | .tag n (.append a b) => by
    show Std.Format.tag n (.append (sub ρ (sub σ a)) (sub ρ (sub σ b))) = .tag n (.append (sub _ a) (sub _ b))
    rw [sub_sub a, sub_sub b]
  | .tag n .line => rfl
  | .tag n .nil => rfl
  | .tag n (.align _) => rfl
  | .tag n (.text _) => rfl
  | .tag n (.nest _ _) => rfl
  | .tag n (.group _ _) => rfl
  | .tag n (.tag _ _) => rfl
  | .nil => rfl
  | .line => rfl
  | .align _ => rfl
  | .text _ => rfl
  | .nest _ _ => rfl
  | .append _ _ => rfl
  | .group _ _ => rfl
theorem sub_cg {ρ σ : Nat → Tr} : ∀ t : Tr, (∀ v, v ∈ vs t → ρ v = σ v) → sub ρ t = sub σ t
  | .tag n (.append a b) => fun h => by
    show Std.Format.tag n (.append (sub ρ a) (sub ρ b)) = .tag n (.append (sub σ a) (sub σ b))
    rw [sub_cg a (fun v hv => h v (List.mem_append.mpr (Or.inl hv))), sub_cg b (fun v hv => h v (List.mem_append.mpr (Or.inr hv)))]
  | .tag n .line => fun h => h n (List.mem_singleton.mpr rfl)
  | .tag n .nil => fun _ => rfl
  | .tag n (.align _) => fun _ => rfl
  | .tag n (.text _) => fun _ => rfl
  | .tag n (.nest _ _) => fun _ => rfl
  | .tag n (.group _ _) => fun _ => rfl
  | .tag n (.tag _ _) => fun _ => rfl
  | .nil => fun _ => rfl
  | .line => fun _ => rfl
  | .align _ => fun _ => rfl
  | .text _ => fun _ => rfl
  | .nest _ _ => fun _ => rfl
  | .append _ _ => fun _ => rfl
  | .group _ _ => fun _ => rfl
theorem tsz_sub {ρ : Nat → Tr} {v : Nat} : ∀ t : Tr, v ∈ vs t → tsz (ρ v) ≤ tsz (sub ρ t)
  | .tag n (.append a b) => fun h => by
    show tsz (ρ v) ≤ 1 + tsz (sub ρ a) + tsz (sub ρ b)
    rcases List.mem_append.mp h with z | z
    · have := tsz_sub (ρ := ρ) a z; omega
    · have := tsz_sub (ρ := ρ) b z; omega
  | .tag n .line => fun h => by
    have : v = n := List.mem_singleton.mp h
    rw [this]
    exact Nat.le_refl _
  | .tag n .nil => fun h => by cases h
  | .tag n (.align _) => fun h => by cases h
  | .tag n (.text _) => fun h => by cases h
  | .tag n (.nest _ _) => fun h => by cases h
  | .tag n (.group _ _) => fun h => by cases h
  | .tag n (.tag _ _) => fun h => by cases h
  | .nil => fun h => by cases h
  | .line => fun h => by cases h
  | .align _ => fun h => by cases h
  | .text _ => fun h => by cases h
  | .nest _ _ => fun h => by cases h
  | .append _ _ => fun h => by cases h
  | .group _ _ => fun h => by cases h
theorem tsz_sub_nd {ρ : Nat → Tr} {v h : Nat} {a b : Tr} (hv : v ∈ vs (nd h a b)) : tsz (ρ v) < tsz (sub ρ (nd h a b)) := by
  show tsz (ρ v) < 1 + tsz (sub ρ a) + tsz (sub ρ b)
  rcases List.mem_append.mp hv with z | z
  · have := tsz_sub (ρ := ρ) a z; omega
  · have := tsz_sub (ρ := ρ) b z; omega
theorem vs_sub {ρ : Nat → Tr} {u : Nat} : ∀ t : Tr, u ∈ vs (sub ρ t) ↔ ∃ v, v ∈ vs t ∧ u ∈ vs (ρ v)
  | .tag n (.append a b) => by
    show u ∈ vs (sub ρ a) ++ vs (sub ρ b) ↔ ∃ v, v ∈ vs a ++ vs b ∧ _
    rw [List.mem_append, vs_sub a, vs_sub b]
    constructor
    · rintro (⟨v, h1, h2⟩ | ⟨v, h1, h2⟩)
      · exact ⟨v, List.mem_append.mpr (Or.inl h1), h2⟩
      · exact ⟨v, List.mem_append.mpr (Or.inr h1), h2⟩
    · rintro ⟨v, h1, h2⟩
      rcases List.mem_append.mp h1 with z | z
      · exact Or.inl ⟨v, z, h2⟩
      · exact Or.inr ⟨v, z, h2⟩
  | .tag n .line => by
    show u ∈ vs (ρ n) ↔ ∃ v, v ∈ [n] ∧ _
    constructor
    · intro h; exact ⟨n, List.mem_singleton.mpr rfl, h⟩
    · rintro ⟨v, h1, h2⟩
      rw [List.mem_singleton.mp h1] at h2
      exact h2
  | .tag n .nil => ⟨fun h => (by cases h), fun ⟨v, h, _⟩ => (by cases h)⟩
  | .tag n (.align _) => ⟨fun h => (by cases h), fun ⟨v, h, _⟩ => (by cases h)⟩
  | .tag n (.text _) => ⟨fun h => (by cases h), fun ⟨v, h, _⟩ => (by cases h)⟩
  | .tag n (.nest _ _) => ⟨fun h => (by cases h), fun ⟨v, h, _⟩ => (by cases h)⟩
  | .tag n (.group _ _) => ⟨fun h => (by cases h), fun ⟨v, h, _⟩ => (by cases h)⟩
  | .tag n (.tag _ _) => ⟨fun h => (by cases h), fun ⟨v, h, _⟩ => (by cases h)⟩
  | .nil => ⟨fun h => (by cases h), fun ⟨v, h, _⟩ => (by cases h)⟩
  | .line => ⟨fun h => (by cases h), fun ⟨v, h, _⟩ => (by cases h)⟩
  | .align _ => ⟨fun h => (by cases h), fun ⟨v, h, _⟩ => (by cases h)⟩
  | .text _ => ⟨fun h => (by cases h), fun ⟨v, h, _⟩ => (by cases h)⟩
  | .nest _ _ => ⟨fun h => (by cases h), fun ⟨v, h, _⟩ => (by cases h)⟩
  | .append _ _ => ⟨fun h => (by cases h), fun ⟨v, h, _⟩ => (by cases h)⟩
  | .group _ _ => ⟨fun h => (by cases h), fun ⟨v, h, _⟩ => (by cases h)⟩
/-! the tree of a term -/
def tvF (B : Bk) (ρ : Nat → Tr) (m : Nat) : Nat → Nat → Tr
  | 0 => fun _ => no
  | f + 1 => fun t => if hB B t < 10 then nd (hB B t) (if 1 ≤ npB B t then tvF B ρ m f (aB B t) else no) (if 2 ≤ npB B t then tvF B ρ m f (bB B t) else no) else ρ (hB B t - 10 + m)
def tv (B : Bk) (ρ : Nat → Tr) (m t : Nat) : Tr := tvF B ρ m (t + 1) t
theorem tvF_st {B : Bk} (G : GB B) {ρ : Nat → Tr} {m : Nat} : ∀ k f g t, t < k → t < f → t < g → t < nB B → tvF B ρ m f t = tvF B ρ m g t := by
  intro k
  induction k with
  | zero => intro f g t h; omega
  | succ k ih =>
    intro f g t h hf hg ht
    obtain ⟨f, rfl⟩ : ∃ f2, f = f2 + 1 := ⟨f - 1, by omega⟩
    obtain ⟨g, rfl⟩ : ∃ g2, g = g2 + 1 := ⟨g - 1, by omega⟩
    unfold tvF
    have ha : (if 1 ≤ npB B t then tvF B ρ m f (aB B t) else no) = (if 1 ≤ npB B t then tvF B ρ m g (aB B t) else no) := by
      by_cases q : 1 ≤ npB B t
      · have := (G.np ht).2.2.1 q
        rw [if_pos q, if_pos q, ih f g _ (by omega) (by omega) (by omega) (by omega)]
      · rw [if_neg q, if_neg q]
    have hb : (if 2 ≤ npB B t then tvF B ρ m f (bB B t) else no) = (if 2 ≤ npB B t then tvF B ρ m g (bB B t) else no) := by
      by_cases q : 2 ≤ npB B t
      · have := (G.np ht).2.2.2.1 q
        rw [if_pos q, if_pos q, ih f g _ (by omega) (by omega) (by omega) (by omega)]
      · rw [if_neg q, if_neg q]
    rw [ha, hb]
theorem tv_eq {B : Bk} (G : GB B) {ρ : Nat → Tr} {m t : Nat} (ht : t < nB B) : tv B ρ m t = if hB B t < 10 then nd (hB B t) (if 1 ≤ npB B t then tv B ρ m (aB B t) else no) (if 2 ≤ npB B t then tv B ρ m (bB B t) else no) else ρ (hB B t - 10 + m) := by
  have e : tv B ρ m t = if hB B t < 10 then nd (hB B t) (if 1 ≤ npB B t then tvF B ρ m t (aB B t) else no) (if 2 ≤ npB B t then tvF B ρ m t (bB B t) else no) else ρ (hB B t - 10 + m) := rfl
  rw [e]
  have ha : (if 1 ≤ npB B t then tvF B ρ m t (aB B t) else no) = (if 1 ≤ npB B t then tv B ρ m (aB B t) else no) := by
    by_cases q : 1 ≤ npB B t
    · have := (G.np ht).2.2.1 q
      rw [if_pos q, if_pos q]
      exact tvF_st G (aB B t + 1) _ _ _ (by omega) (by omega) (by omega) (by omega)
    · rw [if_neg q, if_neg q]
  have hb : (if 2 ≤ npB B t then tvF B ρ m t (bB B t) else no) = (if 2 ≤ npB B t then tv B ρ m (bB B t) else no) := by
    by_cases q : 2 ≤ npB B t
    · have := (G.np ht).2.2.2.1 q
      rw [if_pos q, if_pos q]
      exact tvF_st G (bB B t + 1) _ _ _ (by omega) (by omega) (by omega) (by omega)
    · rw [if_neg q, if_neg q]
  rw [ha, hb]
theorem ct_pos {B : Bk} (G : GB B) {t v : Nat} (ht : t < nB B) (hv : v < 8) : (1 ≤ npB B t → 0 < ctB B (aB B t) v → 0 < ctB B t v) ∧ (2 ≤ npB B t → 0 < ctB B (bB B t) v → 0 < ctB B t v) ∧ (hB B t = 10 + v → 0 < ctB B t v) := by
  rw [mB_cap G ht hv]
  refine ⟨fun q q2 => capN_pos ?_, fun q q2 => capN_pos ?_, fun q => capN_pos ?_⟩
  · unfold two; rw [if_pos q]; omega
  · unfold two; rw [if_pos q]; omega
  · rw [if_pos q]; omega
theorem tv_sub {B : Bk} (G : GB B) {ρ σ : Nat → Tr} {m : Nat} : ∀ k t, t < k → t < nB B → sub ρ (tv B σ m t) = tv B (fun v => sub ρ (σ v)) m t := by
  intro k
  induction k with
  | zero => intro t h; omega
  | succ k ih =>
    intro t h ht
    rw [tv_eq G ht, tv_eq G ht]
    by_cases q1 : hB B t < 10
    · rw [if_pos q1, if_pos q1, sub_nd]
      have ha : sub ρ (if 1 ≤ npB B t then tv B σ m (aB B t) else no) = (if 1 ≤ npB B t then tv B (fun v => sub ρ (σ v)) m (aB B t) else no) := by
        by_cases q : 1 ≤ npB B t
        · have := (G.np ht).2.2.1 q
          rw [if_pos q, if_pos q, ih _ (by omega) (by omega)]
        · rw [if_neg q, if_neg q]; rfl
      have hb : sub ρ (if 2 ≤ npB B t then tv B σ m (bB B t) else no) = (if 2 ≤ npB B t then tv B (fun v => sub ρ (σ v)) m (bB B t) else no) := by
        by_cases q : 2 ≤ npB B t
        · have := (G.np ht).2.2.2.1 q
          rw [if_pos q, if_pos q, ih _ (by omega) (by omega)]
        · rw [if_neg q, if_neg q]; rfl
      rw [ha, hb]
    · rw [if_neg q1, if_neg q1]
theorem tv_cg {B : Bk} (G : GB B) {ρ σ : Nat → Tr} {m : Nat} : ∀ k t, t < k → t < nB B → (∀ v, v < 8 → 0 < ctB B t v → ρ (v + m) = σ (v + m)) → tv B ρ m t = tv B σ m t := by
  intro k
  induction k with
  | zero => intro t h; omega
  | succ k ih =>
    intro t h ht hv
    have hal := G.a_le ht
    rw [tv_eq G ht, tv_eq G ht]
    by_cases q1 : hB B t < 10
    · rw [if_pos q1, if_pos q1]
      have ha : (if 1 ≤ npB B t then tv B ρ m (aB B t) else no) = (if 1 ≤ npB B t then tv B σ m (aB B t) else no) := by
        by_cases q : 1 ≤ npB B t
        · have := (G.np ht).2.2.1 q
          rw [if_pos q, if_pos q, ih _ (by omega) (by omega) (fun v h8 hc => hv v h8 ((ct_pos G ht h8).1 q hc))]
        · rw [if_neg q, if_neg q]
      have hb : (if 2 ≤ npB B t then tv B ρ m (bB B t) else no) = (if 2 ≤ npB B t then tv B σ m (bB B t) else no) := by
        by_cases q : 2 ≤ npB B t
        · have := (G.np ht).2.2.2.1 q
          rw [if_pos q, if_pos q, ih _ (by omega) (by omega) (fun v h8 hc => hv v h8 ((ct_pos G ht h8).2.1 q hc))]
        · rw [if_neg q, if_neg q]
      rw [ha, hb]
    · rw [if_neg q1, if_neg q1]
      exact hv _ (by omega) ((ct_pos G ht (by omega)).2.2 (by omega))
/-- heights, and variables -/
theorem tv_ht {B : Bk} (G : GB B) {ρ : Nat → Tr} {m H : Nat} : ∀ k t, t < k → t < nB B → szB B t ≤ 30 → (∀ v, v < 8 → 0 < ctB B t v → tht (ρ (v + m)) ≤ H) → tht (tv B ρ m t) ≤ szB B t + H := by
  intro k
  induction k with
  | zero => intro t h; omega
  | succ k ih =>
    intro t h ht hs hv
    have hal := G.a_le ht
    have hz := (G.sz_le ht).2.1
    rw [tv_eq G ht]
    by_cases q1 : hB B t < 10
    · rw [if_pos q1]
      show 1 + max (tht _) (tht _) ≤ _
      have ha : tht (if 1 ≤ npB B t then tv B ρ m (aB B t) else no) + 1 ≤ szB B t + H := by
        by_cases q : 1 ≤ npB B t
        · have := (G.np ht).2.2.1 q
          have sa := sz_a G ht hs q
          have := ih (aB B t) (by omega) (by omega) (by omega) (fun v h8 hc => hv v h8 ((ct_pos G ht h8).1 q hc))
          rw [if_pos q]
          omega
        · rw [if_neg q]
          show 0 + 1 ≤ _
          omega
      have hb : tht (if 2 ≤ npB B t then tv B ρ m (bB B t) else no) + 1 ≤ szB B t + H := by
        by_cases q : 2 ≤ npB B t
        · have := (G.np ht).2.2.2.1 q
          have sb := sz_b G ht hs q
          have := ih (bB B t) (by omega) (by omega) (by omega) (fun v h8 hc => hv v h8 ((ct_pos G ht h8).2.1 q hc))
          rw [if_pos q]
          omega
        · rw [if_neg q]
          show 0 + 1 ≤ _
          omega
      omega
    · rw [if_neg q1]
      have := hv _ (by omega) ((ct_pos G ht (v := hB B t - 10) (by omega)).2.2 (by omega))
      omega
theorem tv_vs {B : Bk} (G : GB B) {ρ : Nat → Tr} {m u : Nat} : ∀ k t, t < k → t < nB B → (u ∈ vs (tv B ρ m t) ↔ ∃ v, v < 8 ∧ 0 < ctB B t v ∧ u ∈ vs (ρ (v + m))) := by
  intro k
  induction k with
  | zero => intro t h; omega
  | succ k ih =>
    intro t h ht
    have hal := G.a_le ht
    rw [tv_eq G ht]
    by_cases q1 : hB B t < 10
    · rw [if_pos q1]
      have cnt : ∀ v, v < 8 → 0 < ctB B t v → (1 ≤ npB B t ∧ 0 < ctB B (aB B t) v) ∨ (2 ≤ npB B t ∧ 0 < ctB B (bB B t) v) := fun v hv q => by
        rw [mB_cap G ht hv, if_neg (by omega)] at q
        apply Decidable.byContradiction
        intro z
        have : two (npB B t) (ctB B (aB B t) v) (ctB B (bB B t) v) = 0 := by
          unfold two
          by_cases n1 : 1 ≤ npB B t
          · rw [if_pos n1]
            by_cases n2 : 2 ≤ npB B t
            · rw [if_pos n2]; omega
            · rw [if_neg n2]; omega
          · rw [if_neg n1, if_neg (by omega)]
        rw [this] at q
        exact absurd q (by decide)
      show u ∈ vs _ ++ vs _ ↔ _
      rw [List.mem_append]
      constructor
      · rintro (z | z)
        · by_cases q : 1 ≤ npB B t
          · have := (G.np ht).2.2.1 q
            rw [if_pos q, ih _ (by omega) (by omega)] at z
            obtain ⟨v, h1, h2, h3⟩ := z
            exact ⟨v, h1, (ct_pos G ht h1).1 q h2, h3⟩
          · rw [if_neg q] at z
            cases z
        · by_cases q : 2 ≤ npB B t
          · have := (G.np ht).2.2.2.1 q
            rw [if_pos q, ih _ (by omega) (by omega)] at z
            obtain ⟨v, h1, h2, h3⟩ := z
            exact ⟨v, h1, (ct_pos G ht h1).2.1 q h2, h3⟩
          · rw [if_neg q] at z
            cases z
      · rintro ⟨v, h1, h2, h3⟩
        rcases cnt v h1 h2 with ⟨q, z⟩ | ⟨q, z⟩
        · have := (G.np ht).2.2.1 q
          rw [if_pos q, ih _ (by omega) (by omega)]
          exact Or.inl ⟨v, h1, z, h3⟩
        · have := (G.np ht).2.2.2.1 q
          rw [if_pos q, ih (bB B t) (by omega) (by omega)]
          exact Or.inr ⟨v, h1, z, h3⟩
    · rw [if_neg q1]
      constructor
      · intro z
        exact ⟨hB B t - 10, by omega, (ct_pos G ht (by omega)).2.2 (by omega), z⟩
      · rintro ⟨v, h1, h2, h3⟩
        have n0 := (G.np ht).2.1 (by omega)
        have : v = hB B t - 10 := by
          apply Decidable.byContradiction
          intro z
          rw [mB_cap G ht h1, if_neg (by omega)] at h2
          have : two (npB B t) (ctB B (aB B t) v) (ctB B (bB B t) v) = 0 := by unfold two; rw [if_neg (by omega), if_neg (by omega)]
          rw [this] at h2
          exact absurd h2 (by decide)
        rw [this] at h3
        exact h3
