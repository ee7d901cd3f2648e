/-! a bank that has grown has the same trees -/
theorem Ext.tvE {B B2 : Bk} (G : GB B) (G2 : GB B2) (e : Ext B B2) {ρ : Nat → Tr} {m : Nat} : ∀ k t, t < k → t < nB B → tv B2 ρ m t = tv B ρ m t := by
  have en := e.1
  intro k
  induction k with
  | zero => intro t h; omega
  | succ k ih =>
    intro t h ht
    have et := e.2.2.2.2 t ht
    rw [tv_eq G2 (by omega), tv_eq G ht, et.1, et.2.1, et.2.2.1, e.np ht]
    have ha : (if 1 ≤ npB B t then tv B2 ρ m (aB B t) else no) = (if 1 ≤ npB B t then tv B ρ m (aB B t) else no) := by
      by_cases q : 1 ≤ npB B t
      · have := (G.np ht).2.2.1 q
        rw [if_pos q, if_pos q, ih _ (by omega) (by omega)]
      · rw [if_neg q, if_neg q]
    have hb : (if 2 ≤ npB B t then tv B2 ρ m (bB B t) else no) = (if 2 ≤ npB B t then tv B ρ m (bB B t) else no) := by
      by_cases q : 2 ≤ npB B t
      · have := (G.np ht).2.2.2.1 q
        rw [if_pos q, if_pos q, ih _ (by omega) (by omega)]
      · rw [if_neg q, if_neg q]
    rw [ha, hb]
theorem VT.ext {B B2 : Bk} {t m : Nat} (h : VT B t m) (e : Ext B B2) : VT B2 t m := by
  have et := e.2.2.2.2 t h.1
  have en := e.1
  exact ⟨by have := h.1; omega, by rw [et.2.2.2.1]; exact h.2.1, by rw [et.2.2.2.2.2]; exact h.2.2.1, h.2.2.2⟩
theorem Gb.ext {B B2 : Bk} {β : Be} (h : Gb B β) (e : Ext B B2) : Gb B2 β := by
  obtain ⟨h1, r, h2⟩ := h
  refine ⟨fun v hv => ?_, r, fun v hv hb u hu hc => ?_⟩
  · rcases h1 v hv with z | z
    · exact Or.inl z
    · exact Or.inr (z.ext e)
  · have z := (h1 v hv).resolve_left hb
    rw [(e.2.2.2.2 _ z.1).2.2.2.2.2] at hc
    exact h2 v hv hb u hu hc
theorem Ext.rho {B B2 : Bk} (G : GB B) (G2 : GB B2) (e : Ext B B2) {β : Be} (h : Gb B β) : ∀ f v, v < 8 → rsF B2 β f v = rsF B β f v := by
  intro f
  induction f with
  | zero => intro v _; rfl
  | succ f ih =>
    intro v hv
    unfold rsF
    by_cases q : (β v).1 = 2000
    · rw [if_pos q, if_pos q]
    · have z := (h.1 v hv).resolve_left q
      rw [if_neg q, if_neg q, e.tvE G G2 ((β v).1 + 1) _ (by omega) z.1]
      exact tv_cg G ((β v).1 + 1) _ (by omega) z.1 (fun u hu hc => ih _ (z.ix hu hc).2)
theorem TR.ext {B B2 : Bk} (G : GB B) (G2 : GB B2) (e : Ext B B2) {β : Be} (h : Gb B β) {t m : Nat} (hvt : VT B t m) : TR B2 β m t = TR B β m t := by
  show tv B2 (ρB B2 β) m t = tv B (ρB B β) m t
  rw [e.tvE G G2 (t + 1) t (by omega) hvt.1]
  exact tv_cg G (t + 1) t (by omega) hvt.1 (fun u hu hc => e.rho G G2 h 9 _ (hvt.ix hu hc).2)
/-! variables numbered as they are met -/
def addV : List Nat → List Nat → List Nat
  | l, [] => l
  | l, v :: r => addV (if v ∈ l then l else l ++ [v]) r
theorem addV_nil (l : List Nat) : addV l [] = l := by unfold addV; rfl
theorem addV_app : ∀ (a b l : List Nat), addV l (a ++ b) = addV (addV l a) b := by
  intro a
  induction a with
  | nil => intro b l; rfl
  | cons x a ih => intro b l; exact ih b _
def ix : List Nat → Nat → Nat
  | [], _ => 0
  | x :: l, v => if x = v then 0 else ix l v + 1
theorem ix_lt {v : Nat} : ∀ l : List Nat, v ∈ l → ix l v < l.length := by
  intro l
  induction l with
  | nil => intro h; cases h
  | cons x l ih =>
    intro h
    unfold ix
    by_cases e : x = v
    · rw [if_pos e]; simp
    · rw [if_neg e]
      have := ih ((List.mem_cons.mp h).resolve_left (fun z => e z.symm))
      simp only [List.length_cons]
      omega
theorem ix_app {v : Nat} {r : List Nat} : ∀ l : List Nat, v ∈ l → ix (l ++ r) v = ix l v := by
  intro l
  induction l with
  | nil => intro h; cases h
  | cons x l ih =>
    intro h
    show (if x = v then 0 else ix (l ++ r) v + 1) = if x = v then 0 else ix l v + 1
    by_cases e : x = v
    · rw [if_pos e, if_pos e]
    · rw [if_neg e, if_neg e, ih ((List.mem_cons.mp h).resolve_left (fun z => e z.symm))]
theorem ix_new {v : Nat} : ∀ l : List Nat, v ∉ l → ix (l ++ [v]) v = l.length := by
  intro l
  induction l with
  | nil => intro _; exact if_pos rfl
  | cons x l ih =>
    intro h
    show (if x = v then 0 else ix (l ++ [v]) v + 1) = _
    rw [if_neg (fun z => h (by rw [z]; exact List.mem_cons_self)), ih (fun z => h (List.mem_cons_of_mem _ z))]
    rfl
def cIn (l : List Nat) : Nat → Nat
  | 0 => 0
  | n + 1 => cIn l n + (if n ∈ l then 1 else 0)
theorem cIn_le (l : List Nat) : ∀ n, cIn l n ≤ n := by
  intro n
  induction n with
  | zero => exact Nat.le_refl _
  | succ n ih => unfold cIn; split <;> omega
theorem cIn_new {l : List Nat} {v : Nat} (h : v ∉ l) : ∀ n, cIn (l ++ [v]) n = cIn l n + (if v < n then 1 else 0) := by
  intro n
  induction n with
  | zero => rfl
  | succ n ih =>
    unfold cIn
    rw [ih]
    by_cases e : n = v
    · rw [e, if_pos (List.mem_append.mpr (Or.inr (List.mem_singleton.mpr rfl))), if_neg h, if_neg (by omega), if_pos (by omega)]
    · have : (n ∈ l ++ [v]) ↔ n ∈ l := by
        rw [List.mem_append]
        exact ⟨fun z => z.resolve_right (fun y => e (List.mem_singleton.mp y)), Or.inl⟩
      by_cases q : n ∈ l
      · rw [if_pos (this.mpr q), if_pos q]
        by_cases q2 : v < n
        · rw [if_pos q2, if_pos (by omega)]
        · rw [if_neg q2, if_neg (by omega)]
      · rw [if_neg (fun z => q (this.mp z)), if_neg q]
        by_cases q2 : v < n
        · rw [if_pos q2, if_pos (by omega)]
        · rw [if_neg q2, if_neg (by omega)]
/-- lists of variables, none twice -/
def LN (l : List Nat) : Prop := (∀ v, v ∈ l → v < 8) ∧ l.length = cIn l 8
theorem LN.nil : LN [] := ⟨fun v h => (by cases h), rfl⟩
theorem LN.le {l : List Nat} (h : LN l) : l.length ≤ 8 := by rw [h.2]; exact cIn_le l 8
theorem LN.add {l : List Nat} (h : LN l) {v : Nat} (hv : v < 8) (hn : v ∉ l) : LN (l ++ [v]) := by
  refine ⟨fun u hu => ?_, ?_⟩
  · rcases List.mem_append.mp hu with z | z
    · exact h.1 u z
    · rw [List.mem_singleton.mp z]; exact hv
  · rw [cIn_new hn, if_pos hv, List.length_append, h.2]
    rfl
theorem addV_mem : ∀ (r l : List Nat) (v : Nat), v ∈ addV l r ↔ (v ∈ l ∨ v ∈ r) := by
  intro r
  induction r with
  | nil => intro l v; exact ⟨Or.inl, fun h => h.resolve_right (fun z => by cases z)⟩
  | cons x r ih =>
    intro l v
    show v ∈ addV (if x ∈ l then l else l ++ [x]) r ↔ _
    rw [ih, List.mem_cons]
    by_cases q : x ∈ l
    · rw [if_pos q]
      constructor
      · rintro (z | z)
        · exact Or.inl z
        · exact Or.inr (Or.inr z)
      · rintro (z | z | z)
        · exact Or.inl z
        · rw [z]; exact Or.inl q
        · exact Or.inr z
    · rw [if_neg q, List.mem_append, List.mem_singleton]
      constructor
      · rintro ((z | z) | z)
        · exact Or.inl z
        · exact Or.inr (Or.inl z)
        · exact Or.inr (Or.inr z)
      · rintro (z | z | z)
        · exact Or.inl (Or.inl z)
        · exact Or.inl (Or.inr z)
        · exact Or.inr z
theorem LN.addV : ∀ (r l : List Nat), LN l → (∀ v, v ∈ r → v < 8) → LN (addV l r) := by
  intro r
  induction r with
  | nil => intro l h _; exact h
  | cons x r ih =>
    intro l h hr
    refine ih _ ?_ (fun v hv => hr v (List.mem_cons_of_mem _ hv))
    by_cases q : x ∈ l
    · rw [if_pos q]; exact h
    · rw [if_neg q]; exact h.add (hr x List.mem_cons_self) q
def NumOK (l : List Nat) (w : Wd) : Prop := LN l ∧ sI w 12 = nI l.length ∧ ∀ v, v < 8 → (v ∈ l → aI w 21 v = nI (ix l v)) ∧ (v ∉ l → aI w 21 v = -1)
abbrev nuS : Nat → Bool := fun k => k == 10 || k == 11 || k == 12
abbrev nuA : Nat → Bool := fun k => k == 21
theorem Fr.nuw {w w2 : Wd} (h : Fr wkS noA w w2) : Fr nuS nuA w w2 := h.mn (fun k hk => (Bool.or_eq_false_iff.mp hk).1) (fun _ _ => rfl)
theorem NumOK.k {S A : Nat → Bool} {l : List Nat} {w w2 : Wd} (h : NumOK l w) (f : Fr S A w w2) (s1 : S 12 = false := by rfl) (a1 : A 21 = false := by rfl) : NumOK l w2 := by
  unfold NumOK
  rw [f.1 12 s1, (f.2 21 a1).1]
  exact h
theorem mNumber {B : Bk} (G : GB B) {N : Nat} {β : Be} (hN : 2000000 ≤ N) (gb : Gb B β) : ∀ k d t m l w, RM B w → Rb β w → VT B t m → tht (TR B β m t) ≤ k → NumOK l w →
    ∃ w2, eX11_number N (d + k + 3) w (nI t) (nI m) = some w2 ∧ NumOK (addV l (vs (TR B β m t))) w2 ∧ Fr nuS nuA w w2 := by
  have g1 := G.1
  intro k
  induction k with
  | zero => intro d t m l w _ _ hvt hh; have := tht_pos G gb hvt; omega
  | succ k ih =>
    intro d t m l w rm hb hvt hh hl
    have key : eX11_number N (d + (k + 1) + 3) w (nI t) (nI m) = bX11_number_0 N (d + k + 3) (eX11_number N (d + k + 3)) w (nI t) (nI m) := rfl
    obtain ⟨w1, b, bm, q1, q2, q3, q4, q5, q6, q7⟩ := mWalk G (N := N) (d := d + k + 1) hN gb rm hb hvt
    have q8 : eX11_walk N (d + k + 3) w (nI t) (nI m) = _ := q1
    have eT : TR B β m t = TR B β bm b := q6 _ (ρB_sat G gb)
    have rm1 : RM B w1 := rm.k q2
    have hb1 : Rb β w1 := hb.k q2
    have hl1 : NumOK l w1 := hl.k q2
    have hbn := q5.1.1
    have mv : eX11_isVariable N (d + k + 3) w1 (nI b) = some (w1, if hB B b < 10 then 0 else 1) := mIsVar G rm1 hbn
    rw [key]
    unfold bX11_number_0 bX11_number_67
    simp only [c_nm, c_pi]
    rw [q8, cv_s, q3, q4, mv, cl_s]
    rw [eT] at hh ⊢
    have te := tv_eq G (ρ := ρB B β) (m := bm) hbn
    have hnp := (G.np hbn).1
    have parts : ∀ n w j, fX11_number_70 N (d + k + 3) (eX11_number N (d + k + 3)) (n + 1) w (nI b) (nI bm) j = bX11_number_70 N (d + k + 3) (eX11_number N (d + k + 3)) (fX11_number_70 N (d + k + 3) (eX11_number N (d + k + 3)) n) w (nI b) (nI bm) j := fun n w j => rfl
    obtain ⟨N2, hN2⟩ : ∃ N2, N = N2 + 1 + 1 + 1 := ⟨N - 3, by omega⟩
    have hN3 : ∀ w, fX11_number_70 N (d + k + 3) (eX11_number N (d + k + 3)) N w (nI b) (nI bm) 0 = fX11_number_70 N (d + k + 3) (eX11_number N (d + k + 3)) (N2 + 1 + 1 + 1) w (nI b) (nI bm) (nI 0) := fun w => by rw [← hN2]; rfl
    by_cases s1 : hB B b < 10
    · rw [if_pos s1] at te
      rw [if_pos s1, if_pos i00]
      have vpa := q5.1.pa G
      have hvs : vs (TR B β bm b) = (if 1 ≤ npB B b then vs (TR B β bm (aB B b)) else []) ++ (if 2 ≤ npB B b then vs (TR B β bm (bB B b)) else []) := by
        show vs (tv B (ρB B β) bm b) = _
        rw [te]
        show vs _ ++ vs _ = _
        congr 1
        · split <;> rfl
        · split <;> rfl
      have hta : 1 ≤ npB B b → tht (TR B β bm (aB B b)) ≤ k := fun z => by
        show tht (tv B (ρB B β) bm (aB B b)) ≤ k
        have hh2 : tht (tv B (ρB B β) bm b) ≤ k + 1 := hh
        rw [te, if_pos z] at hh2
        have := (tht_nd1 (h := hB B b) (a := tv B (ρB B β) bm (aB B b)) (b := if 2 ≤ npB B b then tv B (ρB B β) bm (bB B b) else no)).1
        omega
      have htb : 2 ≤ npB B b → tht (TR B β bm (bB B b)) ≤ k := fun z => by
        show tht (tv B (ρB B β) bm (bB B b)) ≤ k
        have hh2 : tht (tv B (ρB B β) bm b) ≤ k + 1 := hh
        rw [te, if_pos z] at hh2
        have := (tht_nd1 (h := hB B b) (a := if 1 ≤ npB B b then tv B (ρB B β) bm (aB B b) else no) (b := tv B (ρB B β) bm (bB B b))).2
        omega
      rw [hN3, parts, hvs]
      unfold bX11_number_70
      simp only [c_nm]
      rw [mParts G rm1 hbn, cl_s]
      by_cases n1 : 1 ≤ npB B b
      · have la := (G.np hbn).2.2.1 n1
        have e0 : eX11_partOf N (d + k + 3) w1 (nI b) (nI 0) = some (w1, eN (aB B b)) := mPartOf0 G rm1 hbn
        obtain ⟨w2, s2, s3, s4⟩ := ih d (aB B b) bm l w1 rm1 hb1 (vpa.1 n1) (hta n1) hl1
        rw [if_neg (fun z => by rw [nI_leI (by omega) (by omega)] at z; omega), e0, cl_s, eN_n (by omega), s2, cv_s, nI_1, parts, if_pos n1]
        have rm2 : RM B w2 := rm1.k s4
        unfold bX11_number_70
        simp only [c_nm]
        rw [mParts G rm2 hbn, cl_s]
        by_cases n2 : 2 ≤ npB B b
        · have lb := (G.np hbn).2.2.2.1 n2
          have e1 : eX11_partOf N (d + k + 3) w2 (nI b) (nI (0 + 1)) = some (w2, eN (bB B b)) := mPartOf1 (by decide) G rm2 hbn
          obtain ⟨w3, s5, s6, s7⟩ := ih d (bB B b) bm _ w2 rm2 (hb1.k s4) (vpa.2.1 n2) (htb n2) s3
          rw [if_neg (fun z => by rw [nI_leI (by omega) (by omega)] at z; omega), e1, cl_s, eN_n (by omega), s5, cv_s, nI_1, parts, if_pos n2]
          have rm3 : RM B w3 := rm2.k s7
          unfold bX11_number_70
          rw [mParts G rm3 hbn, cl_s, if_pos ((nI_leI (by omega) (by omega)).mpr (by omega)), addV_app]
          exact ⟨w3, rfl, s6, (q2.nuw.tr s4).tr s7⟩
        · rw [if_pos ((nI_leI (by omega) (by omega)).mpr (by omega)), if_neg n2, List.append_nil]
          exact ⟨w2, rfl, s3, q2.nuw.tr s4⟩
      · rw [if_pos ((nI_leI (by omega) (by omega)).mpr (by omega)), if_neg n1, if_neg (by omega)]
        exact ⟨w1, rfl, hl1, q2.nuw⟩
    · rw [if_neg s1] at te
      have hun := q5.2 (by omega)
      have hp := (q5.1.pa G).2.2 (by omega)
      have n0 := (G.np hbn).2.1 (by omega)
      have mvo : eX11_variableOf N (d + k + 3) w1 (nI b) = some (w1, nI (hB B b - 10)) := mVarOf G rm1 hbn (by omega)
      have eT2 : vs (TR B β bm b) = [hB B b - 10 + bm] := by
        show vs (tv B (ρB B β) bm b) = _
        rw [te, ρB_un G gb hp.2 hun]
        rfl
      rw [if_neg s1, if_neg i10, mvo, cl_s, nI_add, ld_n (by omega) (by omega), eT2]
      have stop : ∀ w3, RM B w3 → fX11_number_70 N (d + k + 3) (eX11_number N (d + k + 3)) N w3 (nI b) (nI bm) 0 = some w3 := fun w3 rm3 => by
        rw [hN3, parts]
        unfold bX11_number_70
        rw [mParts G rm3 hbn, cl_s, if_pos ((nI_leI (by omega) (by omega)).mpr (by omega))]
      obtain ⟨l1, l2, l3⟩ := hl1
      have ll := l1.le
      generalize hv : hB B b - 10 + bm = v at *
      by_cases q : v ∈ l
      · have := ix_lt l q
        rw [(l3 v hp.2).1 q, if_neg (nI_m1 (by omega)), stop w1 rm1]
        refine ⟨w1, rfl, ?_, q2.nuw⟩
        show NumOK (addV (if v ∈ l then l else l ++ [v]) []) w1
        rw [if_pos q, addV_nil]
        exact ⟨l1, l2, l3⟩
      · rw [(l3 v hp.2).2 q, if_pos rfl, l2, st_n (by omega) (by omega)]
        have z1 : ∀ f, sI (pA w1 21 f) 12 = nI l.length := fun f => l2
        rw [z1, nI_1]
        have rm3 : RM B (pI (pA w1 21 (upd (aI w1 21) v (nI l.length))) 12 (nI (l.length + 1))) := rm1
        rw [stop _ rm3]
        refine ⟨_, rfl, ?_, (q2.nuw.pa rfl).pi rfl⟩
        show NumOK (addV (if v ∈ l then l else l ++ [v]) []) _
        rw [if_neg q, addV_nil]
        refine ⟨l1.add hp.2 q, by rw [List.length_append]; rfl, fun u hu => ?_⟩
        show (u ∈ l ++ [v] → upd (aI w1 21) v (nI l.length) u = _) ∧ (u ∉ l ++ [v] → upd (aI w1 21) v (nI l.length) u = -1)
        by_cases e : u = v
        · rw [e, upd_s, ix_new l q]
          exact ⟨fun _ => rfl, fun z => absurd (List.mem_append.mpr (Or.inr (List.mem_singleton.mpr rfl))) z⟩
        · rw [upd_n e]
          refine ⟨fun z => ?_, fun z => (l3 u hu).2 (fun y => z (List.mem_append.mpr (Or.inl y)))⟩
          have z2 : u ∈ l := (List.mem_append.mp z).resolve_right (fun y => e (List.mem_singleton.mp y))
          rw [ix_app l z2]
          exact (l3 u hu).1 z2
