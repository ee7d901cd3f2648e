/-! the sheet as it is laid: heads, parts, trees -/
abbrev SW (B : Bk) (s : Sht) (n : Nat) (w : Wd) : Prop := ∀ x, 8 ≤ x → x < n → NdW B s 8 n w x
abbrev hdS (B : Bk) (s : Sht) : Nat → Nat := fun x => hB B (tmS s x)
theorem Chd.lt {B : Bk} {s : Sht} {n y t m : Nat} (G : GB B) (hvt : VT B t m) (h8 : 8 ≤ n) (h : Chd B s 8 n y t m) : y < n := by
  rcases h with z | z
  · have := (VT.pa G hvt).2.2 z.1
    omega
  · exact z.2.2.1
theorem SW.sh {B : Bk} {s : Sht} {n : Nat} {w : Wd} (G : GB B) (h : SW B s n w) (h8 : 8 ≤ n) (hn : n ≤ 158) : SH n (hdS B s) (f1S s) (f2S s) := by
  have pt : ∀ x, x < n → 8 ≤ x → (1 ≤ npB B (tmS s x) ∧ f1S s x < n ∨ ¬ 1 ≤ npB B (tmS s x) ∧ f1S s x = 2000) ∧ (2 ≤ npB B (tmS s x) ∧ f2S s x < n ∨ ¬ 2 ≤ npB B (tmS s x) ∧ f2S s x = 2000) := fun x hx x8 => by
    obtain ⟨c1, c2, c3, c4, c5, c6, c7⟩ := h x x8 hx
    have pa := VT.pa G c1
    refine ⟨?_, ?_⟩
    · by_cases q : 1 ≤ npB B (tmS s x)
      · exact Or.inl ⟨q, Chd.lt G (pa.1 q) h8 (c3 q)⟩
      · exact Or.inr ⟨q, c4 q⟩
    · by_cases q : 2 ≤ npB B (tmS s x)
      · exact Or.inl ⟨q, Chd.lt G (pa.2.1 q) h8 (c5 q)⟩
      · exact Or.inr ⟨q, c6 q⟩
  refine ⟨h8, hn, fun x hx x8 => ⟨(pt x hx x8).1.elim (fun z => Or.inl z.2) (fun z => Or.inr z.2), (pt x hx x8).2.elim (fun z => Or.inl z.2) (fun z => Or.inr z.2)⟩, fun x y hx hy x8 y8 e => ?_⟩
  have np : npB B (tmS s x) = npB B (tmS s y) := congrArg (arB B) e
  obtain ⟨p1, p2⟩ := pt x hx x8
  obtain ⟨q1, q2⟩ := pt y hy y8
  rw [np] at p1 p2
  refine ⟨⟨fun z => ?_, fun z => ?_⟩, ⟨fun z => ?_, fun z => ?_⟩⟩
  · rcases p1 with p | p <;> rcases q1 with q | q <;> first | omega | exact q.2
  · rcases p1 with p | p <;> rcases q1 with q | q <;> first | omega | exact p.2
  · rcases p2 with p | p <;> rcases q2 with q | q <;> first | omega | exact q.2
  · rcases p2 with p | p <;> rcases q2 with q | q <;> first | omega | exact p.2
/-- the tree of a node -/
def nv (B : Bk) (s : Sht) (ρ : Nat → Tr) (x : Nat) : Tr := if x < 8 then ρ x else if x = 2000 then no else tv B ρ (msS s x) (tmS s x)
theorem nv_v {B : Bk} {s : Sht} {ρ : Nat → Tr} {x : Nat} (h : x < 8) : nv B s ρ x = ρ x := if_pos h
theorem nv_no {B : Bk} {s : Sht} {ρ : Nat → Tr} : nv B s ρ 2000 = no := rfl
theorem nv_s {B : Bk} {s : Sht} {ρ : Nat → Tr} {x : Nat} (h : 8 ≤ x) (h2 : x < 2000) : nv B s ρ x = tv B ρ (msS s x) (tmS s x) := by
  unfold nv
  rw [if_neg (by omega), if_neg (by omega)]
theorem Chd.nv {B : Bk} {s : Sht} {n y t m : Nat} {ρ : Nat → Tr} (G : GB B) (hvt : VT B t m) (hn : n ≤ 158) (h : Chd B s 8 n y t m) : nv B s ρ y = tv B ρ m t := by
  rcases h with z | z
  · have := (VT.pa G hvt).2.2 z.1
    rw [nv_v (by omega), tv_eq G hvt.1, if_neg (by omega), z.2]
  · rw [nv_s z.2.1 (by omega), z.2.2.2.1, z.2.2.2.2]
theorem nv_nd {B : Bk} {s : Sht} {n x : Nat} {w : Wd} {ρ : Nat → Tr} (G : GB B) (h : SW B s n w) (hn : n ≤ 158) (x8 : 8 ≤ x) (hx : x < n) : nv B s ρ x = nd (hdS B s x) (nv B s ρ (f1S s x)) (nv B s ρ (f2S s x)) := by
  obtain ⟨c1, c2, c3, c4, c5, c6, c7⟩ := h x x8 hx
  have pa := VT.pa G c1
  rw [nv_s x8 (by omega), tv_eq G c1.1, if_pos c2]
  have e1 : (if 1 ≤ npB B (tmS s x) then tv B ρ (msS s x) (aB B (tmS s x)) else no) = nv B s ρ (f1S s x) := by
    by_cases q : 1 ≤ npB B (tmS s x)
    · rw [if_pos q, (c3 q).nv G (pa.1 q) hn]
    · rw [if_neg q, c4 q, nv_no]
  have e2 : (if 2 ≤ npB B (tmS s x) then tv B ρ (msS s x) (bB B (tmS s x)) else no) = nv B s ρ (f2S s x) := by
    by_cases q : 2 ≤ npB B (tmS s x)
    · rw [if_pos q, (c5 q).nv G (pa.2.1 q) hn]
    · rw [if_neg q, c6 q, nv_no]
  rw [e1, e2]
def Eq2 (B : Bk) (s : Sht) (ρ : Nat → Tr) (x y : Nat) : Prop := nv B s ρ x = nv B s ρ y
theorem Eq2.sm {B : Bk} {s : Sht} {ρ : Nat → Tr} : Sm (Eq2 B s ρ) := ⟨fun _ => rfl, fun _ _ h => h.symm, fun _ _ _ h g => h.trans g⟩
theorem Eq2.md {B : Bk} {s : Sht} {n : Nat} {w : Wd} {ρ : Nat → Tr} (G : GB B) (h : SW B s n w) (hn : n ≤ 158) : Md n (hdS B s) (f1S s) (f2S s) (Eq2 B s ρ) := fun x y hx hy x8 y8 e => by
  have e2 : nv B s ρ x = nv B s ρ y := e
  rw [nv_nd G h hn x8 hx, nv_nd G h hn y8 hy] at e2
  obtain ⟨a, b, c⟩ := nd_inj e2
  exact ⟨a, b, c⟩
/-! the class's work on classes -/
abbrev uS : Nat → Bool := fun k => k == 20
abbrev uA : Nat → Bool := fun k => decide (56 < k) && decide (k < 63)
abbrev awA : Nat → Bool := fun k => k == 60 || k == 61
theorem cSv {N d x : Nat} {w : Wd} (hx : x < 2 ^ 31) : eX5_isVariable N (d + 1) w (nI x) = some (w, if x < 8 then 1 else 0) := by
  show bX5_isVariable_0 N d w (nI x) = _
  unfold bX5_isVariable_0 bX5_isVariable_11
  by_cases q : x < 8
  · rw [if_neg (by rw [show (8 : Int32) = nI 8 from rfl, nI_leI (by omega) (by omega)]; omega), if_pos q]; rfl
  · rw [if_pos (by rw [show (8 : Int32) = nI 8 from rfl, nI_leI (by omega) (by omega)]; omega), if_neg q]; rfl
/-- what waits -/
def WA : List (Nat × Nat) → Wd → Prop
  | [] => fun _ => True
  | p :: W => fun w => aI w 60 W.length = nI p.1 ∧ aI w 61 W.length = nI p.2 ∧ WA W w
theorem WA.k {w w2 : Wd} : ∀ W : List (Nat × Nat), (∀ i, i < W.length → aI w2 60 i = aI w 60 i ∧ aI w2 61 i = aI w 61 i) → WA W w → WA W w2 := by
  intro W
  induction W with
  | nil => intro _ _; trivial
  | cons p W ih =>
    intro h g
    rw [List.length_cons] at h
    obtain ⟨g1, g2, g3⟩ := g
    exact ⟨by rw [(h _ (by omega)).1]; exact g1, by rw [(h _ (by omega)).2]; exact g2, ih (fun i hi => h i (by omega)) g3⟩
theorem cAwait {N d u v : Nat} {w : Wd} {W : List (Nat × Nat)} (hu : u < 158 ∨ u = 2000) (hv : v < 158 ∨ v = 2000) (hl : W.length < 158) (h20 : sI w 20 = nI W.length) (hw : WA W w) :
    ∃ w2, eX9_await N (d + 1) w (eN u) (eN v) = some w2 ∧ Fr uS awA w w2 ∧ sI w2 20 = nI (wpre u v W).length ∧ WA (wpre u v W) w2 := by
  have key : eX9_await N (d + 1) w (eN u) (eN v) = bX9_await_0 N d w (eN u) (eN v) := rfl
  rw [key]
  unfold bX9_await_0 bX9_await_50 wpre
  by_cases q1 : u = 2000
  · rw [q1, eN_no, if_pos rfl, if_pos (Or.inl rfl)]
    exact ⟨w, rfl, Fr.rf w, h20, hw⟩
  · rw [if_neg (eN_m1 (by omega))]
    by_cases q2 : v = 2000
    · rw [q2, eN_no, if_pos rfl, if_pos (Or.inr rfl)]
      exact ⟨w, rfl, Fr.rf w, h20, hw⟩
    · rw [if_neg (eN_m1 (by omega)), if_neg (show ¬ (u = 2000 ∨ v = 2000) from fun z => z.elim q1 q2), h20, if_neg (by rw [show (158 : Int32) = nI 158 from rfl, nI_leI (by omega) (by omega)]; omega), st_n hl (by omega)]
      rw [show sI (pA w 60 (upd (aI w 60) W.length (eN u))) 20 = nI W.length from h20, st_n hl (by omega)]
      simp only [c_pi]
      rw [show sI (pA (pA w 60 (upd (aI w 60) W.length (eN u))) 61 (upd (aI (pA w 60 (upd (aI w 60) W.length (eN u))) 61) W.length (eN v))) 20 = nI W.length from h20, nI_1]
      refine ⟨_, rfl, (((Fr.rf w).pa (k := 60) rfl).pa (k := 61) rfl).pi (k := 20) rfl, rfl, ?_, ?_, ?_⟩
      · rw [← eN_n (by omega : u < 2000)]; exact upd_s
      · rw [← eN_n (by omega : v < 2000)]; exact upd_s
      · exact WA.k W (fun i hi => ⟨upd_n (by omega), upd_n (by omega)⟩) hw
theorem UF.c_le {n : Nat} {hd f1 f2 : Nat → Nat} {a0 b0 : Nat} {L Sh rt dep : Nat → Nat} {W : List (Nat × Nat)} {c x : Nat} (h : UF n hd f1 f2 a0 b0 L Sh rt dep W c) (hx : x < n) : c + 1 ≤ n := by
  have := rc_pos (h.2.2.1 x hx) n (h.1 x hx).1
  have := h.2.2.2.1
  omega
theorem cLead {N d : Nat} {n : Nat} {hd f1 f2 : Nat → Nat} {a0 b0 : Nat} {L Sh rt dep : Nat → Nat} {W : List (Nat × Nat)} {c x : Nat} {w : Wd} (hN : 2000000 ≤ N) (hn : n ≤ 158) (h : UF n hd f1 f2 a0 b0 L Sh rt dep W c) (hw : ∀ x, x < n → aI w 57 x = nI (L x)) (hx : x < n) :
    eX9_leadOf N (d + 1) w (nI x) = some (w, nI (rt x)) := by
  have hc := h.c_le hx
  have lp : ∀ k x j f, x < n → dep x = k → j + k ≤ c → k < f → fX9_leadOf_4 N d f w (nI x) (nI j) = some (w, nI (rt x)) := by
    intro k
    induction k with
    | zero =>
      intro x j f hx hk hj hf
      obtain ⟨f, rfl⟩ : ∃ f2, f = f2 + 1 := ⟨f - 1, by omega⟩
      have key : fX9_leadOf_4 N d (f + 1) w (nI x) (nI j) = bX9_leadOf_4 N d (fX9_leadOf_4 N d f) w (nI x) (nI j) := rfl
      rw [key]
      unfold bX9_leadOf_4 bX9_leadOf_34
      obtain ⟨x1, x2, x3⟩ := h.2.1 x hx
      have hL : L x = x := by
        apply Decidable.byContradiction
        intro z
        have := (x3 z).1
        omega
      rw [if_neg (by rw [show (158 : Int32) = nI 158 from rfl, nI_leI (by omega) (by omega)]; omega), ld_n (by omega) (by omega), hw x hx, hL, if_pos rfl, (x2 hL).1]
    | succ k ih =>
      intro x j f hx hk hj hf
      obtain ⟨f, rfl⟩ : ∃ f2, f = f2 + 1 := ⟨f - 1, by omega⟩
      have key : fX9_leadOf_4 N d (f + 1) w (nI x) (nI j) = bX9_leadOf_4 N d (fX9_leadOf_4 N d f) w (nI x) (nI j) := rfl
      rw [key]
      unfold bX9_leadOf_4 bX9_leadOf_34
      obtain ⟨x1, x2, x3⟩ := h.2.1 x hx
      have hL : L x ≠ x := fun z => by
        have := (x2 z).2
        omega
      have hl := (h.1 x hx).2.1
      rw [if_neg (by rw [show (158 : Int32) = nI 158 from rfl, nI_leI (by omega) (by omega)]; omega), ld_n (by omega) (by omega), hw x hx, if_neg (fun z => hL ((nI_eq (by omega) (by omega)).mp z)), ld_n (by omega) (by omega), hw x hx]
      simp only [c_nm]
      rw [nI_1, ih (L x) (j + 1) f hl (by have := (x3 hL).1; omega) (by omega) (by omega), (x3 hL).2]
  have key : eX9_leadOf N (d + 1) w (nI x) = fX9_leadOf_4 N d N w (nI x) (nI 0) := rfl
  rw [key]
  have := (h.2.1 x hx).1
  exact lp (dep x) x 0 N hx rfl (by omega) (by omega)
/-- the world holds the classes -/
def UW (n : Nat) (L Sh : Nat → Nat) (W : List (Nat × Nat)) (w : Wd) : Prop := (∀ x, x < n → aI w 57 x = nI (L x) ∧ aI w 58 x = nI (Sh x)) ∧ sI w 20 = nI W.length ∧ WA W w
abbrev mgA : Nat → Bool := fun k => k == 57 || k == 58 || k == 60 || k == 61
theorem Fr.aw {w w2 : Wd} (h : Fr uS awA w w2) : Fr uS mgA w w2 := h.mn (fun _ h => h) (fun k hk => by
  cases h0 : (k == 60) with
  | false => cases h1 : (k == 61) with
    | false => simp [h0, h1]
    | true => simp [h1] at hk
  | true => simp [h0] at hk)
theorem cMerge {B : Bk} {s : Sht} {N d n : Nat} {a0 b0 : Nat} {L Sh rt dep : Nat → Nat} {W : List (Nat × Nat)} {c p q : Nat} {w : Wd} (G : GB B) (h8 : 8 ≤ n) (hn : n ≤ 158) (sw : SW B s n w) (h : UF n (hdS B s) (f1S s) (f2S s) a0 b0 L Sh rt dep ((p, q) :: W) c) (uw : UW n L Sh W w) :
    ∃ w2 r, eX9_merge N (d + 2) w (nI (rt p)) (nI (rt q)) = some (w2, r) ∧ Fr uS mgA w w2 ∧
      ((r = 0 ∧ ∀ E, Sm E → Md n (hdS B s) (f1S s) (f2S s) E → ¬ E a0 b0) ∨
       (r = 1 ∧ ∃ L2 Sh2 rt2 dep2 W2 c2, UF n (hdS B s) (f1S s) (f2S s) a0 b0 L2 Sh2 rt2 dep2 W2 c2 ∧ UW n L2 Sh2 W2 w2 ∧ W2.length + 2 * (n - c2) + 1 ≤ W.length + 1 + 2 * (n - c))) := by
  have sh := sw.sh G h8 hn
  obtain ⟨hp, hq⟩ := h.2.2.2.2.2.2.2.1 (p, q) List.mem_cons_self
  have hp : p < n := hp
  have hq : q < n := hq
  have ap := (h.1 p hp).1
  have bp := (h.1 q hq).1
  have Sa := (h.1 _ ap).2.2
  have Sb := (h.1 _ bp).2.2
  have hc := h.c_le hp
  have hwl := h.2.2.2.2.1
  rw [List.length_cons] at hwl
  have key : eX9_merge N (d + 2) w (nI (rt p)) (nI (rt q)) = bX9_merge_0 N (d + 1) w (nI (rt p)) (nI (rt q)) := rfl
  rw [key]
  unfold bX9_merge_0
  by_cases e : rt p = rt q
  · rw [if_pos (by rw [e])]
    exact ⟨w, 1, rfl, Fr.rf w, Or.inr ⟨rfl, L, Sh, rt, dep, W, c, h.same e, uw, by omega⟩⟩
  · obtain ⟨j1, j2, j3, j4⟩ := h.join sh e
    rw [if_neg (fun z => e ((nI_eq (by omega) (by omega)).mp z)), ld_n (by omega) (by omega), (uw.1 _ ap).2, ld_n (by omega) (by omega), (uw.1 _ bp).2, st_n (by omega) (by omega)]
    have e57 : aI (pA w 57 (upd (aI w 57) (rt p) (nI (rt q)))) 57 = upd (aI w 57) (rt p) (nI (rt q)) := rfl
    have u57 : ∀ x, x < n → upd (aI w 57) (rt p) (nI (rt q)) x = nI (fu L (rt p) (rt q) x) := fun x hx => by
      by_cases z : x = rt p
      · rw [z, upd_s, fu_s]
      · rw [upd_n z, fu_n z]; exact (uw.1 x hx).1
    have f3 : Fr uS mgA w (pA w 57 (upd (aI w 57) (rt p) (nI (rt q)))) := (Fr.rf w).pa (k := 57) rfl
    have o58 : aI (pA w 57 (upd (aI w 57) (rt p) (nI (rt q)))) 58 = aI w 58 := rfl
    have o20 : sI (pA w 57 (upd (aI w 57) (rt p) (nI (rt q)))) 20 = nI W.length := uw.2.1
    have oW : WA W (pA w 57 (upd (aI w 57) (rt p) (nI (rt q)))) := WA.k (w := w) W (fun i hi => ⟨rfl, rfl⟩) uw.2.2
    have s3 : SW B s n (pA w 57 (upd (aI w 57) (rt p) (nI (rt q)))) := sw
    generalize pA w 57 (upd (aI w 57) (rt p) (nI (rt q))) = w3 at *
    rw [cSv (by omega), cl_s]
    by_cases qb : Sh (rt q) < 8
    · rw [if_pos qb, if_neg i10, st_n (by omega) (by omega)]
      refine ⟨_, 1, rfl, f3.pa (k := 58) rfl, Or.inr ⟨rfl, _, _, _, _, W, c + 1, j1 qb, ⟨fun x hx => ⟨?_, ?_⟩, o20, WA.k (w := w3) W (fun i hi => ⟨rfl, rfl⟩) oW⟩, by omega⟩⟩
      · show aI w3 57 x = _
        rw [e57]; exact u57 x hx
      · show upd (aI w3 58) (rt q) (nI (Sh (rt p))) x = _
        by_cases z : x = rt q
        · rw [z, upd_s, fu_s]
        · rw [upd_n z, fu_n z, o58]; exact (uw.1 x hx).2
    · rw [if_neg qb, if_pos i00, cSv (by omega), cl_s]
      have uw3 : ∀ W2 w2, Fr uS awA w3 w2 → sI w2 20 = nI W2.length → WA W2 w2 → UW n (fu L (rt p) (rt q)) Sh W2 w2 := fun W2 w2 f g1 g2 => by
        refine ⟨fun x hx => ⟨?_, ?_⟩, g1, g2⟩
        · rw [(f.2 57 rfl).1, e57]; exact u57 x hx
        · rw [(f.2 58 rfl).1, o58]; exact (uw.1 x hx).2
      by_cases qa : Sh (rt p) < 8
      · rw [if_pos qa, if_neg i10]
        exact ⟨w3, 1, rfl, f3, Or.inr ⟨rfl, _, _, _, _, W, c + 1, j2 (by omega) qa, uw3 W w3 (Fr.rf w3) o20 oW, by omega⟩⟩
      · obtain ⟨c1, c2, c3, c4, c5, c6, c7, c8, c9, c10⟩ := s3 _ (by omega) Sa
        obtain ⟨k1, k2, k3, k4, k5, k6, k7, k8, k9, k10⟩ := s3 _ (by omega) Sb
        have la : hdS B s (Sh (rt p)) < 18 := (G.a_le c1.1).2.2
        have lb : hdS B s (Sh (rt q)) < 18 := (G.a_le k1.1).2.2
        rw [if_neg qa, if_pos i00, ld_n (by omega) (by omega), c7, ld_n (by omega) (by omega), k7]
        by_cases eh : hdS B s (Sh (rt p)) = hdS B s (Sh (rt q))
        · have pa := sh.2.2.1 _ Sa (by omega)
          have pb := sh.2.2.1 _ Sb (by omega)
          have hc2 := (j3 (by omega) (by omega) eh).c_le hp
          rw [if_pos (congrArg nI eh), ld_n (by omega) (by omega), c9, ld_n (by omega) (by omega), k9]
          obtain ⟨w12, g1, g2, g3, g4⟩ := cAwait (N := N) (d := d) (u := f2S s (Sh (rt p))) (v := f2S s (Sh (rt q))) (by omega) (by omega) (by omega) o20 oW
          rw [g1, cv_s]
          obtain ⟨_, _, _, _, _, _, _, c8', _, _⟩ := s3 _ (by omega) Sa
          rw [ld_n (by omega) (by omega), (g2.2 51 rfl).1, c8, ld_n (by omega) (by omega), (g2.2 51 rfl).1, k8]
          have wl := wpre_len (f2S s (Sh (rt p))) (f2S s (Sh (rt q))) W
          obtain ⟨w15, m1, m2, m3, m4⟩ := cAwait (N := N) (d := d) (u := f1S s (Sh (rt p))) (v := f1S s (Sh (rt q))) (by omega) (by omega) (by omega) g3 g4
          rw [m1, cv_s]
          have wl2 := wpre_len (f1S s (Sh (rt p))) (f1S s (Sh (rt q))) (wpre (f2S s (Sh (rt p))) (f2S s (Sh (rt q))) W)
          exact ⟨w15, 1, rfl, f3.tr (g2.tr m2).aw, Or.inr ⟨rfl, _, _, _, _, _, c + 1, j3 (by omega) (by omega) eh, uw3 _ w15 (g2.tr m2) m3 m4, by omega⟩⟩
        · rw [if_neg (fun z => eh ((nI_eq (by omega) (by omega)).mp z))]
          exact ⟨w3, 0, rfl, f3, Or.inl ⟨rfl, j4 (by omega) (by omega) eh⟩⟩
theorem SW.k {S A : Nat → Bool} {B : Bk} {s : Sht} {n : Nat} {w w2 : Wd} (h : SW B s n w) (f : Fr S A w w2) (a0 : A 50 = false := by rfl) (a1 : A 51 = false := by rfl) (a2 : A 52 = false := by rfl) (a6 : A 56 = false := by rfl) : SW B s n w2 := fun x h1 h2 => by
  obtain ⟨c1, c2, c3, c4, c5, c6, c7, c8, c9, c10⟩ := h x h1 h2
  exact ⟨c1, c2, c3, c4, c5, c6, by rw [(f.2 50 a0).1]; exact c7, by rw [(f.2 51 a1).1]; exact c8, by rw [(f.2 52 a2).1]; exact c9, by rw [(f.2 56 a6).1]; exact c10⟩
/-- classes, until nothing waits -/
theorem cUnifyL {B : Bk} {s : Sht} {N d n : Nat} {a0 b0 : Nat} (hN : 2000000 ≤ N) (G : GB B) (h8 : 8 ≤ n) (hn : n ≤ 158) : ∀ μ f lk L Sh rt dep W c w, SW B s n w → UF n (hdS B s) (f1S s) (f2S s) a0 b0 L Sh rt dep W c → UW n L Sh W w → W.length + 2 * (n - c) ≤ μ → μ < f → lk + μ ≤ 1000 →
    ∃ w2, Fr uS mgA w w2 ∧ ((fX9_unify_46 N (d + 2) f w (nI lk) = some (w2, 0) ∧ ∀ E, Sm E → Md n (hdS B s) (f1S s) (f2S s) E → ¬ E a0 b0) ∨
      (fX9_unify_46 N (d + 2) f w (nI lk) = bX9_unify_110 N (d + 2) w2 ∧ ∃ L2 Sh2 rt2 dep2 c2, UF n (hdS B s) (f1S s) (f2S s) a0 b0 L2 Sh2 rt2 dep2 [] c2 ∧ UW n L2 Sh2 [] w2)) := by
  intro μ
  induction μ with
  | zero =>
    intro f lk L Sh rt dep W c w sw h uw hμ hf hlk
    obtain ⟨f, rfl⟩ : ∃ f2, f = f2 + 1 := ⟨f - 1, by omega⟩
    have hc := h.c_le (x := 0) (by omega)
    omega
  | succ μ ih =>
    intro f lk L Sh rt dep W c w sw h uw hμ hf hlk
    obtain ⟨f, rfl⟩ : ∃ f2, f = f2 + 1 := ⟨f - 1, by omega⟩
    have key : fX9_unify_46 N (d + 2) (f + 1) w (nI lk) = bX9_unify_46 N (d + 2) (fX9_unify_46 N (d + 2) f) w (nI lk) := rfl
    rw [key]
    unfold bX9_unify_46
    have hc := h.c_le (x := 0) (by omega)
    have wl := h.2.2.2.2.1
    rw [if_neg (by rw [show (1000000 : Int32) = nI 1000000 from rfl, nI_leI (by omega) (by omega)]; omega), uw.2.1]
    cases W with
    | nil =>
      rw [if_pos (by decide)]
      exact ⟨w, Fr.rf w, Or.inr ⟨rfl, L, Sh, rt, dep, c, h, uw⟩⟩
    | cons pq W =>
      obtain ⟨p, q⟩ := pq
      rw [List.length_cons] at hμ wl ⊢
      obtain ⟨hp, hq⟩ := h.2.2.2.2.2.2.2.1 (p, q) List.mem_cons_self
      have hp : p < n := hp
      have hq : q < n := hq
      obtain ⟨u1, u2, u3, u4, u5⟩ := uw
      rw [if_neg (by rw [show (0 : Int32) = nI 0 from rfl, nI_leI (by omega) (by omega)]; omega)]
      simp only [c_pi, c_nm]
      rw [show nI (W.length + 1) - 1 = nI W.length from nI_pred _]
      have f1 : Fr uS mgA w (pI w 20 (nI W.length)) := (Fr.rf w).pi (k := 20) rfl
      have e20 : sI (pI w 20 (nI W.length)) 20 = nI W.length := rfl
      have e60 : aI (pI w 20 (nI W.length)) 60 W.length = nI p := u3
      have e61 : aI (pI w 20 (nI W.length)) 61 W.length = nI q := u4
      have uw1 : UW n L Sh W (pI w 20 (nI W.length)) := ⟨u1, rfl, WA.k (w := w) W (fun i hi => ⟨rfl, rfl⟩) u5⟩
      generalize pI w 20 (nI W.length) = w10 at *
      have sw1 : SW B s n w10 := sw.k f1
      rw [e20, ld_n (by omega) (by omega), e60, cLead (d := d + 1) hN hn h (fun x hx => (uw1.1 x hx).1) hp, cl_s, e20, ld_n (by omega) (by omega), e61, cLead (d := d + 1) hN hn h (fun x hx => (uw1.1 x hx).1) hq, cl_s]
      obtain ⟨w17, r, m1, m2, m3⟩ := cMerge (N := N) (d := d) G h8 hn sw1 h uw1
      rw [m1, cl_s]
      rcases m3 with ⟨m3, m4⟩ | ⟨m3, L2, Sh2, rt2, dep2, W2, c2, m4, m5, m6⟩
      · rw [m3, if_pos i00]
        exact ⟨w17, f1.tr m2, Or.inl ⟨rfl, m4⟩⟩
      · rw [m3, if_neg i10, nI_1]
        obtain ⟨w2, o1, o2⟩ := ih f (lk + 1) L2 Sh2 rt2 dep2 W2 c2 w17 (sw1.k m2) m4 m5 (by omega) (by omega) (by omega)
        exact ⟨w2, (f1.tr m2).tr o1, o2⟩
/-- what each node becomes -/
theorem cBecomes {N d n : Nat} {hd f1 f2 : Nat → Nat} {a0 b0 : Nat} {L Sh rt dep : Nat → Nat} {c : Nat} (hN : 2000000 ≤ N) (hn : n ≤ 158) (h : UF n hd f1 f2 a0 b0 L Sh rt dep [] c) : ∀ k f j w, n - j ≤ k → j ≤ n → k < f → sI w 19 = nI n → UW n L Sh [] w → (∀ x, x < j → aI w 59 x = nI (Sh (rt x))) →
    ∃ w2, fX9_unify_112 N (d + 1) f w (nI j) = (c_cl (eX9_isRound N (d + 1) w2) fun w3 v4 => if v4 = 0 then bX9_unify_157 N (d + 1) w3 1 else bX9_unify_157 N (d + 1) w3 0) ∧ Fr noS (fun k => k == 59) w w2 ∧ ∀ x, x < n → aI w2 59 x = nI (Sh (rt x)) := by
  intro k
  induction k with
  | zero =>
    intro f j w hk hj hf h19 uw hx
    obtain ⟨f, rfl⟩ : ∃ f2, f = f2 + 1 := ⟨f - 1, by omega⟩
    have key : fX9_unify_112 N (d + 1) (f + 1) w (nI j) = bX9_unify_112 N (d + 1) (fX9_unify_112 N (d + 1) f) w (nI j) := rfl
    rw [key]
    unfold bX9_unify_112
    rw [h19, if_pos (by rw [nI_leI (by omega) (by omega)]; omega)]
    exact ⟨w, rfl, Fr.rf w, fun x h1 => hx x (by omega)⟩
  | succ k ih =>
    intro f j w hk hj hf h19 uw hx
    obtain ⟨f, rfl⟩ : ∃ f2, f = f2 + 1 := ⟨f - 1, by omega⟩
    have key : fX9_unify_112 N (d + 1) (f + 1) w (nI j) = bX9_unify_112 N (d + 1) (fX9_unify_112 N (d + 1) f) w (nI j) := rfl
    by_cases e : j = n
    · rw [key]
      unfold bX9_unify_112
      rw [h19, if_pos (by rw [nI_leI (by omega) (by omega)]; omega)]
      exact ⟨w, rfl, Fr.rf w, fun x h1 => hx x (by omega)⟩
    · rw [key]
      unfold bX9_unify_112
      have r1 := (h.1 j (by omega)).1
      rw [h19, if_neg (by rw [nI_leI (by omega) (by omega)]; omega), cLead hN hn h (fun x hx => (uw.1 x hx).1) (by omega), cl_s, ld_n (by omega) (by omega), (uw.1 _ r1).2, st_n (by omega) (by omega)]
      simp only [c_nm]
      rw [nI_1]
      obtain ⟨w2, o1, o2, o3⟩ := ih f (j + 1) (pA w 59 (upd (aI w 59) j (nI (Sh (rt j))))) (by omega) (by omega) (by omega) h19 ⟨uw.1, uw.2.1, trivial⟩ (fun x hx1 => by
        show upd (aI w 59) j (nI (Sh (rt j))) x = _
        by_cases z : x = j
        · rw [z, upd_s]
        · rw [upd_n z]; exact hx x (by omega))
      exact ⟨w2, o1, ((Fr.rf w).pa (k := 59) rfl).tr o2, o3⟩
