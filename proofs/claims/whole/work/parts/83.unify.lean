/-! the reference makes two terms the same -/
abbrev unA : Nat → Bool := fun k => k == 19 || k == 20
theorem Fr.unw {w w2 : Wd} (h : Fr wkS noA w w2) : Fr wkS unA w w2 := h.mn (fun _ hk => hk) (fun _ _ => rfl)
theorem extB.rf (β : Be) : extB β β := fun _ _ _ => rfl
theorem extB.tr {β β2 β3 : Be} (h : extB β β2) (g : extB β2 β3) : extB β β3 := fun v hv hb => by
  have e := h v hv hb
  rw [g v hv (by rw [e]; exact hb), e]
theorem extB.fu {β : Be} {v : Nat} {x : Nat × Nat} (hu : (β v).1 = 2000) : extB β (fu β v x) := fun u _ hb => fu_n (fun z => hb (by rw [z]; exact hu))
theorem mBind {B : Bk} (G : GB B) {N d v t m : Nat} {β : Be} {w : Wd} (hN : 2000000 ≤ N) (gb : Gb B β) (hv : v < 8) (rm : RM B w) (hb : Rb β w) (hvt : VT B t m) :
    ∃ w2, (v ∈ vs (TR B β m t) → eX11_bind N (d + 274) w (nI v) (nI t) (nI m) = some (w2, 0)) ∧ (v ∉ vs (TR B β m t) → eX11_bind N (d + 274) w (nI v) (nI t) (nI m) = some (w2, 1) ∧ Rb (fu β v (t, m)) w2) ∧ Fr wkS unA w w2 := by
  have g1 := G.1
  have ht1 := hvt.1
  obtain ⟨w1, s1, s2⟩ := mStands G hN gb hv 270 d t m w rm hb hvt (tv_ht270 G gb hvt)
  have s3 : eX11_standsIn N (d + 273) w (nI v) (nI t) (nI m) = _ := s1
  have key : eX11_bind N (d + 274) w (nI v) (nI t) (nI m) = bX11_bind_0 N (d + 273) w (nI v) (nI t) (nI m) := rfl
  rw [key]
  unfold bX11_bind_0
  rw [s3, cl_s]
  by_cases q : v ∈ vs (TR B β m t)
  · rw [if_pos q, if_neg i10]
    exact ⟨w1, fun _ => rfl, fun z => absurd q z, s2.unw⟩
  · rw [if_neg q, if_pos i00, st_n (by omega) (by omega), st_n (by omega) (by omega)]
    refine ⟨_, fun z => absurd z q, fun _ => ⟨rfl, fun u hu => ?_⟩, (s2.unw.pa rfl).pa rfl⟩
    have hb1 := (hb.k s2 : Rb β w1) u hu
    show upd (aI w1 19) v (nI t) u = _ ∧ (_ → upd (aI w1 20) v (nI m) u = _)
    by_cases e : u = v
    · rw [e, upd_s, upd_s, fu_s, eN_n (by omega)]
      exact ⟨rfl, fun _ => rfl⟩
    · rw [upd_n e, upd_n e, fu_n e]
      exact hb1
/-- what one unification gives -/
def UnR (B : Bk) (β : Be) (s sm t tm : Nat) (w w2 : Wd) (b : Int32) : Prop :=
  Fr wkS unA w w2 ∧ ((b = 1 ∧ ∃ β2, Gb B β2 ∧ extB β β2 ∧ Rb β2 w2 ∧ ∀ ρ, sat B β2 ρ ↔ (sat B β ρ ∧ tv B ρ sm s = tv B ρ tm t)) ∨ (b = 0 ∧ ∀ ρ, sat B β ρ → tv B ρ sm s ≠ tv B ρ tm t))
theorem mUnify {B : Bk} (G : GB B) {N : Nat} (hN : 2000000 ≤ N) : ∀ k d s sm t tm β w, RM B w → Rb β w → Gb B β → VT B s sm → VT B t tm → (∀ β2, Gb B β2 → extB β β2 → tht (TR B β2 sm s) ≤ k) →
    ∃ w2 b, eX11_unify N (d + k + 275) w (nI s) (nI sm) (nI t) (nI tm) = some (w2, b) ∧ UnR B β s sm t tm w w2 b := by
  have g1 := G.1
  intro k
  induction k with
  | zero =>
    intro d s sm t tm β w _ _ gb hs _ hh
    have := hh β gb (extB.rf β)
    have := tht_pos G gb hs
    omega
  | succ k ih =>
    intro d s sm t tm β w rm hb gb hs ht hh
    have key : eX11_unify N (d + (k + 1) + 275) w (nI s) (nI sm) (nI t) (nI tm) = bX11_unify_0 N (d + k + 275) (eX11_unify N (d + k + 275)) w (nI s) (nI sm) (nI t) (nI tm) := rfl
    obtain ⟨w1, a, am, q1, q2, q3, q4, q5, q6, q7⟩ := mWalk G (N := N) (d := d + k + 273) hN gb rm hb hs
    have q8 : eX11_walk N (d + k + 275) w (nI s) (nI sm) = _ := q1
    obtain ⟨w4, b, bm, p1, p2, p3, p4, p5, p6, p7⟩ := mWalk G (N := N) (d := d + k + 273) hN gb (rm.k q2) (hb.k q2) ht
    have p8 : eX11_walk N (d + k + 275) w1 (nI t) (nI tm) = _ := p1
    have fr4 : Fr wkS noA w w4 := q2.tr p2
    have rm4 : RM B w4 := rm.k fr4
    have hb4 : Rb β w4 := hb.k fr4
    have ha := q5.1.1
    have hbn := p5.1.1
    have ala := G.a_le ha
    have alb := G.a_le hbn
    have mva : eX11_isVariable N (d + k + 275) w4 (nI a) = some (w4, if hB B a < 10 then 0 else 1) := mIsVar G rm4 ha
    have mvb : eX11_isVariable N (d + k + 275) w4 (nI b) = some (w4, if hB B b < 10 then 0 else 1) := mIsVar G rm4 hbn
    have tea : ∀ ρ, tv B ρ am a = if hB B a < 10 then nd (hB B a) (if 1 ≤ npB B a then tv B ρ am (aB B a) else no) (if 2 ≤ npB B a then tv B ρ am (bB B a) else no) else ρ (hB B a - 10 + am) := fun ρ => tv_eq G ha
    have teb : ∀ ρ, tv B ρ bm b = if hB B b < 10 then nd (hB B b) (if 1 ≤ npB B b then tv B ρ bm (aB B b) else no) (if 2 ≤ npB B b then tv B ρ bm (bB B b) else no) else ρ (hB B b - 10 + bm) := fun ρ => tv_eq G hbn
    -- the equation, walked
    have weq : ∀ ρ, sat B β ρ → (tv B ρ sm s = tv B ρ tm t ↔ tv B ρ am a = tv B ρ bm b) := fun ρ hρ => by rw [q6 ρ hρ, p6 ρ hρ]
    -- a variable that is bound now
    have dobind : ∀ v x xm, v < 8 → (β v).1 = 2000 → VT B x xm → (∀ ρ, sat B β ρ → (tv B ρ am a = tv B ρ bm b ↔ ρ v = tv B ρ xm x)) → (v ∈ vs (TR B β xm x) → hB B x < 10) →
        ∃ w2 r, (c_cl (eX11_bind N (d + k + 275) w4 (nI v) (nI x) (nI xm)) fun w30 v31 => c_bo v31 (some (w30, v31))) = some (w2, r) ∧ UnR B β s sm t tm w w2 r := by
      intro v x xm hv hun hvt heq hst
      obtain ⟨w5, c1, c2, c3⟩ := mBind G (N := N) (d := d + k + 1) hN gb hv rm4 hb4 hvt
      by_cases q : v ∈ vs (TR B β xm x)
      · have c4 : eX11_bind N (d + k + 275) w4 (nI v) (nI x) (nI xm) = _ := c1 q
        rw [c4, cl_s]
        refine ⟨w5, 0, bo01 (Or.inl rfl), fr4.unw.tr c3, Or.inr ⟨rfl, fun ρ hρ e => ?_⟩⟩
        have e2 := (heq ρ hρ).mp ((weq ρ hρ).mp e)
        have hx := hst q
        have e3 := sat_tv G gb hρ hvt
        have e4 : TR B β xm x = nd (hB B x) (if 1 ≤ npB B x then tv B (ρB B β) xm (aB B x) else no) (if 2 ≤ npB B x then tv B (ρB B β) xm (bB B x) else no) := by
          show tv B (ρB B β) xm x = _
          rw [tv_eq G hvt.1, if_pos hx]
        rw [e4] at q
        have lt := tsz_sub_nd (ρ := ρ) q
        rw [← e4] at lt
        have e5 : sub ρ (TR B β xm x) = tv B ρ xm x := e3
        rw [e5, ← e2] at lt
        omega
      · obtain ⟨c4, c5⟩ := c2 q
        have c6 : eX11_bind N (d + k + 275) w4 (nI v) (nI x) (nI xm) = _ := c4
        rw [c6, cl_s]
        have hx := hvt.1
        refine ⟨w5, 1, bo01 (Or.inr rfl), fr4.unw.tr c3, Or.inl ⟨rfl, fu β v (x, xm), gb.bind G hv hun hvt q, extB.fu hun, c5, fun ρ => ?_⟩⟩
        rw [sat_bind hv hun (by omega)]
        constructor
        · rintro ⟨z1, z2⟩; exact ⟨z1, (weq ρ z1).mpr ((heq ρ z1).mpr z2)⟩
        · rintro ⟨z1, z2⟩; exact ⟨z1, (heq ρ z1).mp ((weq ρ z1).mp z2)⟩
    -- the piece behind the first tests
    have p78 : ¬ (10 ≤ hB B a ∧ 10 ≤ hB B b ∧ hB B a - 10 + am = hB B b - 10 + bm) → ∃ w2 r, bX11_unify_78 N (d + k + 275) (eX11_unify N (d + k + 275)) w4 (nI a) (nI am) (nI b) (nI bm) = some (w2, r) ∧ UnR B β s sm t tm w w2 r := by
      intro hne
      unfold bX11_unify_78
      rw [mva, cl_s]
      by_cases sa : hB B a < 10
      · rw [if_pos sa, if_pos i00, mvb, cl_s]
        by_cases sb : hB B b < 10
        · rw [if_pos sb, if_pos i00, ld_n (by omega) (by omega), (rm4.2.2.2.2.1 a ha).1, ld_n (by omega) (by omega), (rm4.2.2.2.2.1 b hbn).1]
          by_cases hh2 : hB B a = hB B b
          · rw [if_pos (by rw [hh2])]
            have npe : npB B a = npB B b := by unfold npB; rw [hh2]
            have hnp := (G.np ha).1
            have vpa := q5.1.pa G
            have vpb := p5.1.pa G
            have parts : ∀ n w j, fX11_unify_154 N (d + k + 275) (eX11_unify N (d + k + 275)) (n + 1) w (nI a) (nI am) (nI b) (nI bm) j = bX11_unify_154 N (d + k + 275) (eX11_unify N (d + k + 275)) (fX11_unify_154 N (d + k + 275) (eX11_unify N (d + k + 275)) n) w (nI a) (nI am) (nI b) (nI bm) j := fun n w j => rfl
            obtain ⟨N2, hN2⟩ : ∃ N2, N = N2 + 1 + 1 + 1 := ⟨N - 3, by omega⟩
            have hN3 : fX11_unify_154 N (d + k + 275) (eX11_unify N (d + k + 275)) N w4 (nI a) (nI am) (nI b) (nI bm) 0 = fX11_unify_154 N (d + k + 275) (eX11_unify N (d + k + 275)) (N2 + 1 + 1 + 1) w4 (nI a) (nI am) (nI b) (nI bm) (nI 0) := by rw [← hN2]; rfl
            have eqp : ∀ ρ, (tv B ρ am a = tv B ρ bm b ↔ ((1 ≤ npB B a → tv B ρ am (aB B a) = tv B ρ bm (aB B b)) ∧ (2 ≤ npB B a → tv B ρ am (bB B a) = tv B ρ bm (bB B b)))) := fun ρ => by
              rw [tea, teb, if_pos sa, if_pos sb, ← npe, hh2]
              constructor
              · intro e
                obtain ⟨_, e1, e2⟩ := nd_inj e
                refine ⟨fun z => ?_, fun z => ?_⟩
                · rw [if_pos z, if_pos z] at e1; exact e1
                · rw [if_pos z, if_pos z] at e2; exact e2
              · rintro ⟨e1, e2⟩
                have f1 : (if 1 ≤ npB B a then tv B ρ am (aB B a) else no) = (if 1 ≤ npB B a then tv B ρ bm (aB B b) else no) := by
                  by_cases z : 1 ≤ npB B a
                  · rw [if_pos z, if_pos z, e1 z]
                  · rw [if_neg z, if_neg z]
                have f2 : (if 2 ≤ npB B a then tv B ρ am (bB B a) else no) = (if 2 ≤ npB B a then tv B ρ bm (bB B b) else no) := by
                  by_cases z : 2 ≤ npB B a
                  · rw [if_pos z, if_pos z, e2 z]
                  · rw [if_neg z, if_neg z]
                rw [f1, f2]
            have hpa : ∀ β2, Gb B β2 → extB β β2 → (1 ≤ npB B a → tht (TR B β2 am (aB B a)) ≤ k) ∧ (2 ≤ npB B a → tht (TR B β2 am (bB B a)) ≤ k) := fun β2 gb2 ex2 => by
              have h1 : tht (tv B (ρB B β2) sm s) ≤ k + 1 := hh β2 gb2 ex2
              rw [q6 _ (ex2.sat (ρB_sat G gb2)), tea, if_pos sa] at h1
              refine ⟨fun z => ?_, fun z => ?_⟩
              · show tht (tv B (ρB B β2) am (aB B a)) ≤ k
                rw [if_pos z] at h1
                have := (tht_nd1 (h := hB B a) (a := tv B (ρB B β2) am (aB B a)) (b := if 2 ≤ npB B a then tv B (ρB B β2) am (bB B a) else no)).1
                omega
              · show tht (tv B (ρB B β2) am (bB B a)) ≤ k
                rw [if_pos z] at h1
                have := (tht_nd1 (h := hB B a) (a := if 1 ≤ npB B a then tv B (ρB B β2) am (aB B a) else no) (b := tv B (ρB B β2) am (bB B a))).2
                omega
            rw [hN3, parts]
            unfold bX11_unify_154
            simp only [c_nm]
            rw [mParts G rm4 ha, cl_s]
            by_cases n1 : 1 ≤ npB B a
            · have la := (G.np ha).2.2.1 n1
              have lb := (G.np hbn).2.2.1 (by omega)
              have e0 : ∀ x, x < nB B → eX11_partOf N (d + k + 275) w4 (nI x) (nI 0) = some (w4, eN (aB B x)) := fun x hx => mPartOf0 G rm4 hx
              rw [if_neg (fun z => by rw [nI_leI (by omega) (by omega)] at z; omega), e0 a ha, cl_s, e0 b hbn, cl_s, eN_n (by omega), eN_n (by omega)]
              obtain ⟨w5, r5, u1, u2, u3⟩ := ih d (aB B a) am (aB B b) bm β w4 rm4 hb4 gb (vpa.1 n1) (vpb.1 (by omega)) (fun β2 gb2 ex2 => (hpa β2 gb2 ex2).1 n1)
              rw [u1, cl_s]
              rcases u3 with ⟨rfl, β2, v1, v2, v3, v4⟩ | ⟨rfl, v1⟩
              · rw [if_neg i10, nI_1, parts]
                have rm5 : RM B w5 := rm4.k u2
                unfold bX11_unify_154
                simp only [c_nm]
                rw [mParts G rm5 ha, cl_s]
                by_cases n2 : 2 ≤ npB B a
                · have la2 := (G.np ha).2.2.2.1 n2
                  have lb2 := (G.np hbn).2.2.2.1 (by omega)
                  have e1 : ∀ x, x < nB B → eX11_partOf N (d + k + 275) w5 (nI x) (nI (0 + 1)) = some (w5, eN (bB B x)) := fun x hx => mPartOf1 (by decide) G rm5 hx
                  rw [if_neg (fun z => by rw [nI_leI (by omega) (by omega)] at z; omega), e1 a ha, cl_s, e1 b hbn, cl_s, eN_n (by omega), eN_n (by omega)]
                  obtain ⟨w6, r6, x1, x2, x3⟩ := ih d (bB B a) am (bB B b) bm β2 w5 rm5 v3 v1 (vpa.2.1 n2) (vpb.2.1 (by omega)) (fun β3 gb3 ex3 => (hpa β3 gb3 (v2.tr ex3)).2 n2)
                  rw [x1, cl_s]
                  rcases x3 with ⟨rfl, β3, y1, y2, y3, y4⟩ | ⟨rfl, y1⟩
                  · rw [if_neg i10, nI_1, parts]
                    have rm6 : RM B w6 := rm5.k x2
                    unfold bX11_unify_154
                    rw [mParts G rm6 ha, cl_s, if_pos ((nI_leI (by omega) (by omega)).mpr (by omega))]
                    refine ⟨w6, 1, rfl, (fr4.unw.tr u2).tr x2, Or.inl ⟨rfl, β3, y1, v2.tr y2, y3, fun ρ => ?_⟩⟩
                    rw [y4, v4]
                    constructor
                    · rintro ⟨⟨z1, z2⟩, z3⟩
                      exact ⟨z1, (weq ρ z1).mpr ((eqp ρ).mpr ⟨fun _ => z2, fun _ => z3⟩)⟩
                    · rintro ⟨z1, z2⟩
                      have := (eqp ρ).mp ((weq ρ z1).mp z2)
                      exact ⟨⟨z1, this.1 n1⟩, this.2 n2⟩
                  · rw [if_pos i00]
                    refine ⟨w6, 0, rfl, (fr4.unw.tr u2).tr x2, Or.inr ⟨rfl, fun ρ hρ e => ?_⟩⟩
                    have := (eqp ρ).mp ((weq ρ hρ).mp e)
                    exact y1 ρ ((v4 ρ).mpr ⟨hρ, this.1 n1⟩) (this.2 n2)
                · rw [if_pos ((nI_leI (by omega) (by omega)).mpr (by omega))]
                  refine ⟨w5, 1, rfl, fr4.unw.tr u2, Or.inl ⟨rfl, β2, v1, v2, v3, fun ρ => ?_⟩⟩
                  rw [v4]
                  constructor
                  · rintro ⟨z1, z2⟩
                    exact ⟨z1, (weq ρ z1).mpr ((eqp ρ).mpr ⟨fun _ => z2, fun z => absurd z n2⟩)⟩
                  · rintro ⟨z1, z2⟩
                    exact ⟨z1, ((eqp ρ).mp ((weq ρ z1).mp z2)).1 n1⟩
              · rw [if_pos i00]
                refine ⟨w5, 0, rfl, fr4.unw.tr u2, Or.inr ⟨rfl, fun ρ hρ e => ?_⟩⟩
                exact v1 ρ hρ (((eqp ρ).mp ((weq ρ hρ).mp e)).1 n1)
            · rw [if_pos ((nI_leI (by omega) (by omega)).mpr (by omega))]
              refine ⟨w4, 1, rfl, fr4.unw, Or.inl ⟨rfl, β, gb, extB.rf β, hb4, fun ρ => ?_⟩⟩
              constructor
              · intro z1
                exact ⟨z1, (weq ρ z1).mpr ((eqp ρ).mpr ⟨fun z => absurd z n1, fun z => by omega⟩)⟩
              · exact fun z => z.1
          · rw [if_neg (fun z => hh2 ((sg_all _ ala.2.2).2.2.2.1 _ alb.2.2 z))]
            refine ⟨w4, 0, rfl, fr4.unw, Or.inr ⟨rfl, fun ρ hρ e => ?_⟩⟩
            have e2 := (weq ρ hρ).mp e
            rw [tea, teb, if_pos sa, if_pos sb] at e2
            exact hh2 (nd_inj e2).1
        · have hp := (p5.1.pa G).2.2 (by omega)
          have mvo : eX11_variableOf N (d + k + 275) w4 (nI b) = some (w4, nI (hB B b - 10)) := mVarOf G rm4 hbn (by omega)
          rw [if_neg sb, if_neg i10, mvo, cl_s, nI_add]
          refine dobind _ a am hp.2 (p5.2 (by omega)) q5.1 (fun ρ _ => ?_) (fun _ => sa)
          rw [teb, if_neg sb]
          exact ⟨fun z => z.symm, fun z => z.symm⟩
      · have hp := (q5.1.pa G).2.2 (by omega)
        have mvo : eX11_variableOf N (d + k + 275) w4 (nI a) = some (w4, nI (hB B a - 10)) := mVarOf G rm4 ha (by omega)
        rw [if_neg sa, if_neg i10, mvo, cl_s, nI_add]
        refine dobind _ b bm hp.2 (q5.2 (by omega)) p5.1 (fun ρ _ => by rw [tea, if_neg sa]) (fun z => ?_)
        apply Decidable.byContradiction
        intro sb
        have hq := (p5.1.pa G).2.2 (by omega)
        have e : TR B β bm b = vr (hB B b - 10 + bm) := by
          show tv B (ρB B β) bm b = _
          rw [teb, if_neg sb, ρB_un G gb hq.2 (p5.2 (by omega))]
        rw [e] at z
        exact hne ⟨by omega, by omega, List.mem_singleton.mp z⟩
    rw [key]
    unfold bX11_unify_0
    simp only [c_nm]
    rw [q8, cv_s, q3, q4, p8, cv_s, p3, p4, mva, cl_s]
    by_cases sa : hB B a < 10
    · rw [if_pos sa, if_pos i00]
      exact p78 (fun z => by omega)
    · rw [if_neg sa, if_neg i10, mvb, cl_s]
      by_cases sb : hB B b < 10
      · rw [if_pos sb, if_pos i00]
        exact p78 (fun z => by omega)
      · have hp := (q5.1.pa G).2.2 (by omega)
        have hq := (p5.1.pa G).2.2 (by omega)
        have mvo : eX11_variableOf N (d + k + 275) w4 (nI a) = some (w4, nI (hB B a - 10)) := mVarOf G rm4 ha (by omega)
        have mvo2 : eX11_variableOf N (d + k + 275) w4 (nI b) = some (w4, nI (hB B b - 10)) := mVarOf G rm4 hbn (by omega)
        rw [if_neg sb, if_neg i10, mvo, cl_s, mvo2, cl_s, nI_add, nI_add]
        by_cases e : hB B a - 10 + am = hB B b - 10 + bm
        · rw [if_pos (by rw [e])]
          refine ⟨w4, 1, rfl, fr4.unw, Or.inl ⟨rfl, β, gb, extB.rf β, hb4, fun ρ => ⟨fun z1 => ⟨z1, (weq ρ z1).mpr ?_⟩, fun z => z.1⟩⟩⟩
          rw [tea, teb, if_neg sa, if_neg sb, e]
        · rw [if_neg (fun z => e ((nI_eq (by omega) (by omega)).mp z))]
          exact p78 (fun z => e z.2.2)
