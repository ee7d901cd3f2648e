/-! nodes that fall into classes -/
def rc (L : Nat → Nat) : Nat → Nat
  | 0 => 0
  | n + 1 => rc L n + (if L n = n then 1 else 0)
theorem rc_le {L : Nat → Nat} : ∀ n, rc L n ≤ n := by
  intro n
  induction n with
  | zero => exact Nat.le_refl _
  | succ n ih => unfold rc; split <;> omega
theorem rc_pos {L : Nat → Nat} {a : Nat} (ha : L a = a) : ∀ n, a < n → 1 ≤ rc L n := by
  intro n
  induction n with
  | zero => intro h; omega
  | succ n ih =>
    intro h
    unfold rc
    by_cases e : a = n
    · rw [← e, if_pos ha]; omega
    · have := ih (by omega); omega
theorem rc_cg {L L2 : Nat → Nat} : ∀ n, (∀ x, x < n → L2 x = L x) → rc L2 n = rc L n := by
  intro n
  induction n with
  | zero => intro _; rfl
  | succ n ih =>
    intro h
    unfold rc
    rw [ih (fun x hx => h x (by omega)), h n (by omega)]
theorem rc_upd {L : Nat → Nat} {a b : Nat} (ha : L a = a) (hb : b ≠ a) : ∀ n, a < n → rc (fu L a b) n + 1 = rc L n := by
  intro n
  induction n with
  | zero => intro h; omega
  | succ n ih =>
    intro h
    unfold rc
    by_cases e : a = n
    · subst e
      rw [fu_s, if_neg hb, if_pos ha, rc_cg a (fun x hx => fu_n (by omega))]
    · rw [fu_n (by omega : n ≠ a)]
      have := ih (by omega)
      omega
/-- a relation of sameness -/
def Sm (E : Nat → Nat → Prop) : Prop := (∀ x, E x x) ∧ (∀ x y, E x y → E y x) ∧ ∀ x y z, E x y → E y z → E x z
/-- two nodes are linked by classes and by what waits -/
def Lk (n : Nat) (rt : Nat → Nat) (W : List (Nat × Nat)) (u v : Nat) : Prop := ∀ E, Sm E → (∀ x, x < n → E x (rt x)) → (∀ p, p ∈ W → E p.1 p.2) → E u v
/-- a sheet: how many nodes, heads, parts -/
def SH (n : Nat) (hd f1 f2 : Nat → Nat) : Prop := 8 ≤ n ∧ n ≤ 158 ∧ (∀ x, x < n → 8 ≤ x → (f1 x < n ∨ f1 x = 2000) ∧ (f2 x < n ∨ f2 x = 2000)) ∧
  ∀ x y, x < n → y < n → 8 ≤ x → 8 ≤ y → hd x = hd y → (f1 x = 2000 ↔ f1 y = 2000) ∧ (f2 x = 2000 ↔ f2 y = 2000)
/-- what is the same keeps the same parts -/
def Md (n : Nat) (hd f1 f2 : Nat → Nat) (E : Nat → Nat → Prop) : Prop := ∀ x y, x < n → y < n → 8 ≤ x → 8 ≤ y → E x y → hd x = hd y ∧ E (f1 x) (f1 y) ∧ E (f2 x) (f2 y)
def UF (n : Nat) (hd f1 f2 : Nat → Nat) (a0 b0 : Nat) (L Sh rt dep : Nat → Nat) (W : List (Nat × Nat)) (c : Nat) : Prop :=
  (∀ x, x < n → rt x < n ∧ L x < n ∧ Sh x < n) ∧
  (∀ x, x < n → dep x ≤ c ∧ (L x = x → rt x = x ∧ dep x = 0) ∧ (L x ≠ x → dep (L x) + 1 = dep x ∧ rt (L x) = rt x)) ∧
  (∀ x, x < n → L (rt x) = rt x) ∧ c + rc L n = n ∧ W.length ≤ c + 1 ∧
  (∀ x, x < n → rt (Sh (rt x)) = rt x) ∧ (∀ x, x < n → 8 ≤ x → 8 ≤ Sh (rt x)) ∧ (∀ p, p ∈ W → p.1 < n ∧ p.2 < n) ∧
  (∀ x, x < n → 8 ≤ x → hd x = hd (Sh (rt x)) ∧ Lk n rt W (f1 x) (f1 (Sh (rt x))) ∧ Lk n rt W (f2 x) (f2 (Sh (rt x)))) ∧ Lk n rt W a0 b0 ∧
  ∀ E, Sm E → Md n hd f1 f2 E → E a0 b0 → (∀ x, x < n → E x (rt x)) ∧ ∀ p, p ∈ W → E p.1 p.2
theorem Lk.rf {n : Nat} {rt : Nat → Nat} {W : List (Nat × Nat)} {u : Nat} : Lk n rt W u u := fun _ s _ _ => s.1 u
theorem Lk.tr {n : Nat} {rt : Nat → Nat} {W : List (Nat × Nat)} {u v z : Nat} (h : Lk n rt W u v) (g : Lk n rt W v z) : Lk n rt W u z := fun E s h1 h2 => s.2.2 _ _ _ (h E s h1 h2) (g E s h1 h2)
theorem UF.start {n : Nat} {hd f1 f2 : Nat → Nat} {a0 b0 : Nat} {L Sh : Nat → Nat} (ha : a0 < n) (hb : b0 < n) (hL : ∀ x, x < n → L x = x) (hS : ∀ x, x < n → Sh x = x) : UF n hd f1 f2 a0 b0 L Sh (fun x => x) (fun _ => 0) [(a0, b0)] 0 := by
  have r : ∀ m, m ≤ n → rc L m = m := by
    intro m
    induction m with
    | zero => intro _; rfl
    | succ m ih => intro h; unfold rc; rw [ih (by omega), if_pos (hL m (by omega))]
  refine ⟨fun x hx => ⟨hx, by rw [hL x hx]; exact hx, by rw [hS x hx]; exact hx⟩, fun x hx => ⟨Nat.le_refl _, fun _ => ⟨rfl, rfl⟩, fun q => absurd (hL x hx) q⟩, fun x hx => hL x hx, by rw [r n (Nat.le_refl _)]; omega, Nat.le_refl _, fun x hx => hS x hx, fun x hx h8 => by rw [hS x hx]; exact h8, ?_, ?_, ?_, ?_⟩
  · intro p hp
    rw [List.mem_singleton.mp hp]
    exact ⟨ha, hb⟩
  · intro x hx _
    rw [hS x hx]
    exact ⟨rfl, Lk.rf, Lk.rf⟩
  · intro E _ _ h
    exact h _ (List.mem_singleton.mpr rfl)
  · intro E s _ h
    refine ⟨fun x _ => s.1 x, fun p hp => ?_⟩
    rw [List.mem_singleton.mp hp]
    exact h
theorem UF.same {n : Nat} {hd f1 f2 : Nat → Nat} {a0 b0 : Nat} {L Sh rt dep : Nat → Nat} {W : List (Nat × Nat)} {c p q : Nat} (h : UF n hd f1 f2 a0 b0 L Sh rt dep ((p, q) :: W) c) (e : rt p = rt q) : UF n hd f1 f2 a0 b0 L Sh rt dep W c := by
  obtain ⟨h1, h2, h3, h4, h5, h6, h7, h8, h9, h10, h11⟩ := h
  obtain ⟨hp, hq⟩ := h8 (p, q) List.mem_cons_self
  have lk : ∀ u v, Lk n rt ((p, q) :: W) u v → Lk n rt W u v := fun u v g E s e1 e2 => g E s e1 (fun z hz => by
    rcases List.mem_cons.mp hz with y | y
    · rw [y]
      have a := e1 p hp
      have b := e1 q hq
      rw [← e] at b
      exact s.2.2 _ _ _ a (s.2.1 _ _ b)
    · exact e2 z y)
  rw [List.length_cons] at h5
  exact ⟨h1, h2, h3, h4, by omega, h6, h7, fun z hz => h8 z (List.mem_cons_of_mem _ hz), fun x hx h8 => ⟨(h9 x hx h8).1, lk _ _ (h9 x hx h8).2.1, lk _ _ (h9 x hx h8).2.2⟩, lk _ _ h10, fun E s m g => ⟨(h11 E s m g).1, fun z hz => (h11 E s m g).2 z (List.mem_cons_of_mem _ hz)⟩⟩
def wpre (u v : Nat) (W : List (Nat × Nat)) : List (Nat × Nat) := if u = 2000 ∨ v = 2000 then W else (u, v) :: W
theorem wpre_len (u v : Nat) (W : List (Nat × Nat)) : (wpre u v W).length ≤ W.length + 1 := by
  unfold wpre
  split
  · omega
  · rw [List.length_cons]; omega
theorem wpre_mem {u v : Nat} {W : List (Nat × Nat)} {p : Nat × Nat} (h : p ∈ wpre u v W) : p = (u, v) ∧ u ≠ 2000 ∧ v ≠ 2000 ∨ p ∈ W := by
  unfold wpre at h
  split at h
  · exact Or.inr h
  · rename_i q
    rcases List.mem_cons.mp h with z | z
    · exact Or.inl ⟨z, fun y => q (Or.inl y), fun y => q (Or.inr y)⟩
    · exact Or.inr z
theorem wpre_in {u v : Nat} {W : List (Nat × Nat)} {p : Nat × Nat} (h : p ∈ W) : p ∈ wpre u v W := by
  unfold wpre
  split
  · exact h
  · exact List.mem_cons_of_mem _ h
theorem wpre_sm {u v : Nat} {W : List (Nat × Nat)} {E : Nat → Nat → Prop} (s : Sm E) (hn : u = 2000 ↔ v = 2000) (h : ∀ p, p ∈ wpre u v W → E p.1 p.2) : E u v := by
  by_cases q : u = 2000
  · rw [q, hn.mp q]; exact s.1 _
  · refine h (u, v) ?_
    unfold wpre
    rw [if_neg (fun z => z.elim q (fun y => q (hn.mpr y)))]
    exact List.mem_cons_self
/-- one class falls to another -/
theorem UF.join {n : Nat} {hd f1 f2 : Nat → Nat} {a0 b0 : Nat} {L Sh rt dep : Nat → Nat} {W : List (Nat × Nat)} {c p q : Nat} (sh : SH n hd f1 f2) (h : UF n hd f1 f2 a0 b0 L Sh rt dep ((p, q) :: W) c) (e : rt p ≠ rt q) :
    (Sh (rt q) < 8 → UF n hd f1 f2 a0 b0 (fu L (rt p) (rt q)) (fu Sh (rt q) (Sh (rt p))) (fun x => if rt x = rt p then rt q else rt x) (fun x => if rt x = rt p then dep x + 1 else dep x) W (c + 1)) ∧
    (8 ≤ Sh (rt q) → Sh (rt p) < 8 → UF n hd f1 f2 a0 b0 (fu L (rt p) (rt q)) Sh (fun x => if rt x = rt p then rt q else rt x) (fun x => if rt x = rt p then dep x + 1 else dep x) W (c + 1)) ∧
    (8 ≤ Sh (rt q) → 8 ≤ Sh (rt p) → hd (Sh (rt p)) = hd (Sh (rt q)) → UF n hd f1 f2 a0 b0 (fu L (rt p) (rt q)) Sh (fun x => if rt x = rt p then rt q else rt x) (fun x => if rt x = rt p then dep x + 1 else dep x) (wpre (f1 (Sh (rt p))) (f1 (Sh (rt q))) (wpre (f2 (Sh (rt p))) (f2 (Sh (rt q))) W)) (c + 1)) ∧
    (8 ≤ Sh (rt q) → 8 ≤ Sh (rt p) → hd (Sh (rt p)) ≠ hd (Sh (rt q)) → ∀ E, Sm E → Md n hd f1 f2 E → ¬ E a0 b0) := by
  obtain ⟨h1, h2, h3, h4, h5, h6, h7, h8, h9, h10, h11⟩ := h
  obtain ⟨hp, hq⟩ := h8 (p, q) List.mem_cons_self
  have hp : p < n := hp
  have hq : q < n := hq
  obtain ⟨ap, al, as⟩ := h1 p hp
  obtain ⟨bp, bl, bs⟩ := h1 q hq
  have La := h3 p hp
  have Lb := h3 q hq
  obtain ⟨a1, a2, a3⟩ := h2 _ ap
  obtain ⟨b1, b2, b3⟩ := h2 _ bp
  have ra := (a2 La).1
  have rb := (b2 Lb).1
  have da := (a2 La).2
  have db := (b2 Lb).2
  have Sa := (h1 _ ap).2.2
  have Sb := (h1 _ bp).2.2
  have rSa := h6 p hp
  have rSb := h6 q hq
  rw [List.length_cons] at h5
  generalize hA : rt p = a at *
  generalize hB : rt q = b at *
  -- the parts that all cases share
  have c1 : ∀ x, x < n → (if rt x = a then b else rt x) < n ∧ fu L a b x < n := fun x hx => by
    refine ⟨?_, ?_⟩
    · split
      · exact bp
      · exact (h1 x hx).1
    · by_cases z : x = a
      · rw [z, fu_s]; exact bp
      · rw [fu_n z]; exact (h1 x hx).2.1
  have c2 : ∀ x, x < n → (if rt x = a then dep x + 1 else dep x) ≤ c + 1 ∧ (fu L a b x = x → (if rt x = a then b else rt x) = x ∧ (if rt x = a then dep x + 1 else dep x) = 0) ∧ (fu L a b x ≠ x → (if rt (fu L a b x) = a then dep (fu L a b x) + 1 else dep (fu L a b x)) + 1 = (if rt x = a then dep x + 1 else dep x) ∧ (if rt (fu L a b x) = a then b else rt (fu L a b x)) = (if rt x = a then b else rt x)) := fun x hx => by
    obtain ⟨x1, x2, x3⟩ := h2 x hx
    refine ⟨by split <;> omega, fun z => ?_, fun z => ?_⟩
    · by_cases y : x = a
      · rw [y, fu_s] at z
        exact absurd z.symm e
      · rw [fu_n y] at z
        obtain ⟨w1, w2⟩ := x2 z
        rw [w1, if_neg y, if_neg y]
        exact ⟨rfl, w2⟩
    · by_cases y : x = a
      · rw [y, fu_s, rb, ra, if_neg (fun z => e z.symm), if_pos rfl, if_neg (fun z => e z.symm), if_pos rfl, db, da]
        exact ⟨rfl, rfl⟩
      · rw [fu_n y] at z ⊢
        obtain ⟨w1, w2⟩ := x3 z
        rw [w2]
        refine ⟨?_, rfl⟩
        split <;> omega
  have c3 : ∀ x, x < n → fu L a b (if rt x = a then b else rt x) = (if rt x = a then b else rt x) := fun x hx => by
    split
    · rw [fu_n (fun z => e z.symm)]; exact Lb
    · rename_i z
      rw [fu_n z]; exact h3 x hx
  have c4 : c + 1 + rc (fu L a b) n = n := by
    have := rc_upd La (fun z => e z.symm) n ap
    omega
  have lk : ∀ W2 : List (Nat × Nat), (∀ z, z ∈ W → z ∈ W2) → ∀ E, Sm E → (∀ x, x < n → E x (if rt x = a then b else rt x)) → (∀ z, z ∈ W2 → E z.1 z.2) → (∀ x, x < n → E x (rt x)) ∧ ∀ z, z ∈ (p, q) :: W → E z.1 z.2 := fun W2 sub2 E s e1 e2 => by
    have eab : E a b := by
      have := e1 a ap
      rw [ra, if_pos rfl] at this
      exact this
    have o1 : ∀ x, x < n → E x (rt x) := fun x hx => by
      have := e1 x hx
      by_cases z : rt x = a
      · rw [if_pos z] at this
        rw [z]
        exact s.2.2 _ _ _ this (s.2.1 _ _ eab)
      · rw [if_neg z] at this
        exact this
    refine ⟨o1, fun z hz => ?_⟩
    rcases List.mem_cons.mp hz with y | y
    · rw [y]
      have x1 := o1 p hp
      have x2 := o1 q hq
      rw [hA] at x1
      rw [hB] at x2
      exact s.2.2 _ _ _ x1 (s.2.2 _ _ _ eab (s.2.1 _ _ x2))
    · exact e2 z (sub2 z y)
  have lk2 : ∀ W2 : List (Nat × Nat), (∀ z, z ∈ W → z ∈ W2) → ∀ u v, Lk n rt ((p, q) :: W) u v → Lk n (fun x => if rt x = a then b else rt x) W2 u v := fun W2 sub2 u v g E s e1 e2 => by
    obtain ⟨o1, o2⟩ := lk W2 sub2 E s e1 e2
    exact g E s o1 o2
  have md : ∀ E, Sm E → Md n hd f1 f2 E → E a0 b0 → (∀ x, x < n → E x (if rt x = a then b else rt x)) ∧ (∀ z, z ∈ W → E z.1 z.2) ∧ E (Sh a) (Sh b) := fun E s m g => by
    obtain ⟨o1, o2⟩ := h11 E s m g
    have x1 := o1 p hp
    have x2 := o1 q hq
    rw [hA] at x1
    rw [hB] at x2
    have x3 : E p q := o2 (p, q) List.mem_cons_self
    have eab : E a b := s.2.2 _ _ _ (s.2.1 _ _ x1) (s.2.2 _ _ _ x3 x2)
    have y1 := o1 _ Sa
    have y2 := o1 _ Sb
    rw [rSa] at y1
    rw [rSb] at y2
    refine ⟨fun x hx => ?_, fun z hz => o2 z (List.mem_cons_of_mem _ hz), s.2.2 _ _ _ y1 (s.2.2 _ _ _ eab (s.2.1 _ _ y2))⟩
    have := o1 x hx
    split
    · rename_i z
      rw [z] at this
      exact s.2.2 _ _ _ this eab
    · exact this
  refine ⟨fun vb => ?_, fun sb va => ?_, fun sb sa eh => ?_, fun sb sa eh E s m g => ?_⟩
  · refine ⟨fun x hx => ⟨(c1 x hx).1, (c1 x hx).2, ?_⟩, c2, c3, c4, by omega, fun x hx => ?_, fun x hx x8 => ?_, fun z hz => h8 z (List.mem_cons_of_mem _ hz), fun x hx x8 => ?_, lk2 W (fun z hz => hz) _ _ h10, fun E s m g => ⟨(md E s m g).1, (md E s m g).2.1⟩⟩
    · by_cases z : x = b
      · rw [z, fu_s]; exact Sa
      · rw [fu_n z]; exact (h1 x hx).2.2
    · show (if rt (fu Sh b (Sh a) (if rt x = a then b else rt x)) = a then b else rt (fu Sh b (Sh a) (if rt x = a then b else rt x))) = if rt x = a then b else rt x
      by_cases z : rt x = a
      · rw [if_pos z, fu_s, rSa, if_pos rfl]
      · rw [if_neg z]
        by_cases y : rt x = b
        · rw [y, fu_s, rSa, if_pos rfl]
        · rw [fu_n y, h6 x hx, if_neg z]
    · show 8 ≤ fu Sh b (Sh a) (if rt x = a then b else rt x)
      have := h7 x hx x8
      by_cases z : rt x = a
      · rw [if_pos z, fu_s]
        rw [z] at this
        exact this
      · rw [if_neg z]
        by_cases y : rt x = b
        · rw [y] at this; omega
        · rw [fu_n y]; exact this
    · have := h7 x hx x8
      obtain ⟨k1, k2, k3⟩ := h9 x hx x8
      show hd x = hd (fu Sh b (Sh a) (if rt x = a then b else rt x)) ∧ Lk _ _ _ _ (f1 (fu Sh b (Sh a) (if rt x = a then b else rt x))) ∧ Lk _ _ _ _ (f2 (fu Sh b (Sh a) (if rt x = a then b else rt x)))
      by_cases z : rt x = a
      · rw [if_pos z, fu_s]
        rw [z] at k1 k2 k3
        exact ⟨k1, lk2 W (fun z hz => hz) _ _ k2, lk2 W (fun z hz => hz) _ _ k3⟩
      · rw [if_neg z]
        by_cases y : rt x = b
        · rw [y] at this; omega
        · rw [fu_n y]
          exact ⟨k1, lk2 W (fun z hz => hz) _ _ k2, lk2 W (fun z hz => hz) _ _ k3⟩
  · refine ⟨fun x hx => ⟨(c1 x hx).1, (c1 x hx).2, (h1 x hx).2.2⟩, c2, c3, c4, by omega, fun x hx => ?_, fun x hx x8 => ?_, fun z hz => h8 z (List.mem_cons_of_mem _ hz), fun x hx x8 => ?_, lk2 W (fun z hz => hz) _ _ h10, fun E s m g => ⟨(md E s m g).1, (md E s m g).2.1⟩⟩
    · show (if rt (Sh (if rt x = a then b else rt x)) = a then b else rt (Sh (if rt x = a then b else rt x))) = if rt x = a then b else rt x
      by_cases z : rt x = a
      · rw [if_pos z, rSb, if_neg (fun z => e z.symm)]
      · rw [if_neg z, h6 x hx, if_neg z]
    · show 8 ≤ Sh (if rt x = a then b else rt x)
      have := h7 x hx x8
      by_cases z : rt x = a
      · rw [if_pos z]; exact sb
      · rw [if_neg z]; exact this
    · have := h7 x hx x8
      obtain ⟨k1, k2, k3⟩ := h9 x hx x8
      show hd x = hd (Sh (if rt x = a then b else rt x)) ∧ Lk _ _ _ _ (f1 (Sh (if rt x = a then b else rt x))) ∧ Lk _ _ _ _ (f2 (Sh (if rt x = a then b else rt x)))
      by_cases z : rt x = a
      · rw [z] at this; omega
      · rw [if_neg z]
        exact ⟨k1, lk2 W (fun z hz => hz) _ _ k2, lk2 W (fun z hz => hz) _ _ k3⟩
  · have ar := sh.2.2.2 _ _ Sa Sb sa sb eh
    have pa := sh.2.2.1 _ Sa sa
    have pb := sh.2.2.1 _ Sb sb
    have ss : ∀ z, z ∈ W → z ∈ wpre (f1 (Sh a)) (f1 (Sh b)) (wpre (f2 (Sh a)) (f2 (Sh b)) W) := fun z hz => wpre_in (wpre_in hz)
    have l1 : Lk n (fun x => if rt x = a then b else rt x) (wpre (f1 (Sh a)) (f1 (Sh b)) (wpre (f2 (Sh a)) (f2 (Sh b)) W)) (f1 (Sh a)) (f1 (Sh b)) := fun E s _ e2 => wpre_sm s ar.1 e2
    have l2 : Lk n (fun x => if rt x = a then b else rt x) (wpre (f1 (Sh a)) (f1 (Sh b)) (wpre (f2 (Sh a)) (f2 (Sh b)) W)) (f2 (Sh a)) (f2 (Sh b)) := fun E s _ e2 => wpre_sm s ar.2 (fun z hz => e2 z (wpre_in hz))
    refine ⟨fun x hx => ⟨(c1 x hx).1, (c1 x hx).2, (h1 x hx).2.2⟩, c2, c3, c4, ?_, fun x hx => ?_, fun x hx x8 => ?_, fun z hz => ?_, fun x hx x8 => ?_, lk2 _ ss _ _ h10, fun E s m g => ⟨(md E s m g).1, fun z hz => ?_⟩⟩
    · have x1 := wpre_len (f1 (Sh a)) (f1 (Sh b)) (wpre (f2 (Sh a)) (f2 (Sh b)) W)
      have x2 := wpre_len (f2 (Sh a)) (f2 (Sh b)) W
      omega
    · show (if rt (Sh (if rt x = a then b else rt x)) = a then b else rt (Sh (if rt x = a then b else rt x))) = if rt x = a then b else rt x
      by_cases z : rt x = a
      · rw [if_pos z, rSb, if_neg (fun z => e z.symm)]
      · rw [if_neg z, h6 x hx, if_neg z]
    · show 8 ≤ Sh (if rt x = a then b else rt x)
      have := h7 x hx x8
      by_cases z : rt x = a
      · rw [if_pos z]; exact sb
      · rw [if_neg z]; exact this
    · rcases wpre_mem hz with ⟨y, y1, y2⟩ | y
      · rw [y]
        exact ⟨pa.1.resolve_right y1, pb.1.resolve_right y2⟩
      · rcases wpre_mem y with ⟨y, y1, y2⟩ | y
        · rw [y]
          exact ⟨pa.2.resolve_right y1, pb.2.resolve_right y2⟩
        · exact h8 z (List.mem_cons_of_mem _ y)
    · obtain ⟨k1, k2, k3⟩ := h9 x hx x8
      show hd x = hd (Sh (if rt x = a then b else rt x)) ∧ Lk _ _ _ _ (f1 (Sh (if rt x = a then b else rt x))) ∧ Lk _ _ _ _ (f2 (Sh (if rt x = a then b else rt x)))
      by_cases z : rt x = a
      · rw [if_pos z]
        rw [z] at k1 k2 k3
        exact ⟨k1.trans eh, (lk2 _ ss _ _ k2).tr l1, (lk2 _ ss _ _ k3).tr l2⟩
      · rw [if_neg z]
        exact ⟨k1, lk2 _ ss _ _ k2, lk2 _ ss _ _ k3⟩
    · obtain ⟨o1, o2, o3⟩ := md E s m g
      obtain ⟨m1, m2, m3⟩ := m _ _ Sa Sb sa sb o3
      rcases wpre_mem hz with ⟨y, y1, y2⟩ | y
      · rw [y]; exact m2
      · rcases wpre_mem y with ⟨y, y1, y2⟩ | y
        · rw [y]; exact m3
        · exact o2 z y
  · exact eh (m _ _ Sa Sb sa sb (md E s m g).2.2).1
/-- behind it: what each node becomes -/
def BC (n : Nat) (hd f1 f2 : Nat → Nat) (a0 b0 : Nat) (bc : Nat → Nat) : Prop :=
  (∀ x, x < n → bc x < n ∧ bc (bc x) = bc x ∧ (8 ≤ x → 8 ≤ bc x ∧ hd x = hd (bc x) ∧ (f1 x = 2000 ↔ f1 (bc x) = 2000) ∧ (f2 x = 2000 ↔ f2 (bc x) = 2000) ∧ (f1 x < n → bc (f1 x) = bc (f1 (bc x))) ∧ (f2 x < n → bc (f2 x) = bc (f2 (bc x))))) ∧ bc a0 = bc b0 ∧
  ∀ E, Sm E → Md n hd f1 f2 E → E a0 b0 → ∀ x, x < n → E x (bc x)
theorem UF.fin {n : Nat} {hd f1 f2 : Nat → Nat} {a0 b0 : Nat} {L Sh rt dep : Nat → Nat} {c : Nat} (sh : SH n hd f1 f2) (ha : a0 < n) (hb : b0 < n) (h : UF n hd f1 f2 a0 b0 L Sh rt dep [] c) : BC n hd f1 f2 a0 b0 (fun x => Sh (rt x)) := by
  obtain ⟨h1, h2, h3, h4, h5, h6, h7, h8, h9, h10, h11⟩ := h
  have lk : ∀ u v, Lk n rt [] u v → rt u = rt v := fun u v g => by
    refine g (fun u v => rt u = rt v) ⟨fun _ => rfl, fun _ _ h => h.symm, fun _ _ _ h g => h.trans g⟩ (fun x hx => ?_) (fun p hp => by cases hp)
    exact (((h2 _ (h1 x hx).1).2.1 (h3 x hx)).1).symm
  refine ⟨fun x hx => ?_, ?_, fun E s m g x hx => ?_⟩
  · have r1 := (h1 x hx).1
    have s1 := (h1 _ r1).2.2
    refine ⟨s1, ?_, fun x8 => ?_⟩
    · show Sh (rt (Sh (rt x))) = Sh (rt x)
      rw [h6 x hx]
    · obtain ⟨k1, k2, k3⟩ := h9 x hx x8
      have s8 := h7 x hx x8
      have ar := sh.2.2.2 _ _ hx s1 x8 s8 k1
      exact ⟨s8, k1, ar.1, ar.2, fun _ => congrArg Sh (lk _ _ k2), fun _ => congrArg Sh (lk _ _ k3)⟩
  · exact congrArg Sh (lk _ _ h10)
  · obtain ⟨o1, o2⟩ := h11 E s m g
    have r1 := (h1 x hx).1
    have s1 := (h1 _ r1).2.2
    have a := o1 x hx
    have b := o1 _ s1
    rw [h6 x hx] at b
    exact s.2.2 _ _ _ a (s.2.1 _ _ b)
