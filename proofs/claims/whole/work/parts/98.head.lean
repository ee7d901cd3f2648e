/-! both sides' trees are the same, numbered -/
theorem link {B : Bk} (G : GB B) {s : Sht} {n x0 ylj yri yrj li ri lj rj t p k : Nat} {bc rk : Nat → Nat} {w : Wd} {β : Be} {l : List (Nat × Nat)} (h8 : 8 ≤ n) (hn : n ≤ 158) (sw : SW B s n w) (hb : BC n (hdS B s) (f1S s) (f2S s) x0 ylj bc) (h1 : ∀ v, rk v ≤ 8) (h2 : ∀ v u, v < 8 → u < 8 → Eg B s bc v u → rk u < rk v)
    (gb : Gb B β) (hsat : ∀ ρ, sat B β ρ ↔ nv B s ρ x0 = nv B s ρ ylj) (hx0 : x0 < n) (hylj : ylj < n) (vli : VT B li 0) (vri : VT B ri 0) (vlj : VT B lj 4) (vrj : VT B rj 4)
    (e8 : ∀ ρ, nv B s ρ 8 = tv B ρ 0 li) (ex : ∀ ρ, nv B s ρ x0 = tv B ρ 0 t) (elj : ∀ ρ, nv B s ρ ylj = tv B ρ 4 lj) (eri : ∀ ρ, nv B s ρ yri = tv B ρ 0 ri) (erj : ∀ ρ, nv B s ρ yrj = tv B ρ 4 rj)
    (ij : ∀ v, v < 8 → 0 < ctB B rj v → 0 < ctB B lj v) (ii : ∀ v, v < 8 → 0 < ctB B ri v → 0 < ctB B li v) (pth : Pth B s n li l x0 t p k) :
    let lr := addV [] (vs (TR B β 0 li)); let lc := addV [] (vs (nv B s (ρC B s bc) 8));
    let X := rpF B β rj (lN p) 30 li (lN 1); let Y := Kt (hdS B s) (f1S s) (f2S s) (nv B s (ρC B s bc)) l (nv B s (ρC B s bc) yrj);
    nmT (ix lc) Y = nmT (ix lr) X ∧ nmT (ix lc) (nv B s (ρC B s bc) yri) = nmT (ix lr) (TR B β 0 ri) ∧ (∀ u, u ∈ vs X → u ∈ lr) ∧ (∀ u, u ∈ vs (TR B β 0 ri) → u ∈ lr) ∧
      (∀ u, u ∈ vs Y → u ∈ lc) ∧ (∀ u, u ∈ vs (nv B s (ρC B s bc) yri) → u ∈ lc) ∧ tht Y ≤ 300 ∧ tht (nv B s (ρC B s bc) yri) ≤ 270 := by
  intro lr lc X Y
  have hvt : ∀ v, v < 8 → 8 ≤ bc v → VT B (tmS s (bc v)) (msS s (bc v)) := fun v hv q => (sw _ q (hb.1 v (by omega)).1).1
  have solc : nv B s (ρC B s bc) x0 = nv B s (ρC B s bc) ylj := ρC_sol G hn h8 sw hb h1 h2 _ _ hx0 hylj hb.2.1
  have solr : nv B s (ρB B β) x0 = nv B s (ρB B β) ylj := (hsat _).mp (ρB_sat G gb)
  have r1 : ∀ v, v < 8 → sub (ρC B s bc) (ρB B β v) = ρC B s bc v := sat_sub G gb ((hsat _).mpr solc)
  have r2 : ∀ v, v < 8 → sub (ρB B β) (ρC B s bc v) = ρB B β v := ρC_sub G hn (fun v hv => (hb.1 v (by omega)).1) hvt h1 h2 (fun x hx => hb.2.2 (Eq2 B s (ρB B β)) Eq2.sm (Eq2.md G sw hn) solr x (by omega))
  have rn := Rn.of G gb r1 r2
  generalize piT (ρC B s bc) = π at rn
  have nodes : ∀ y, y < n ∨ y = 2000 → sub (fun u => vr (π u)) (nv B s (ρB B β) y) = nv B s (ρC B s bc) y := fun y hy => by
    by_cases q : y < 8
    · rw [nv_v q, nv_v q, rn.1 y q]
    · by_cases q2 : y = 2000
      · rw [q2, nv_no, nv_no]; rfl
      · rw [nv_s (by omega) (by omega), nv_s (by omega) (by omega)]
        exact (rn.tv G (sw y (by omega) (by omega)).1).symm
  have sh := sw.sh G h8 hn
  have free : ∀ t m u, VT B t m → u ∈ vs (TR B β m t) → u < 8 ∧ (β u).1 = 2000 := fun t m u hv hu => by
    obtain ⟨v, v1, v2, v3⟩ := (tv_vs G (t + 1) t (by omega) hv.1).mp hu
    exact ρB_vs G gb _ (hv.ix v1 v2).2 u v3
  have mlr : ∀ u, u ∈ lr ↔ u ∈ vs (TR B β 0 li) := fun u => by
    rw [addV_mem]
    exact ⟨fun z => z.resolve_left (fun y => by cases y), Or.inr⟩
  have inj : ∀ u v, u ∈ lr → v ∈ lr → π u = π v → u = v := fun u v hu hv e => by
    obtain ⟨a1, a2⟩ := free li 0 u vli ((mlr u).mp hu)
    obtain ⟨b1, b2⟩ := free li 0 v vli ((mlr v).mp hv)
    exact rn.2.1 u v a1 b1 a2 b2 e
  have elc : lc = lr.map π := by
    show addV [] (vs (nv B s (ρC B s bc) 8)) = (addV [] (vs (TR B β 0 li))).map π
    rw [e8, rn.tv G vli, vs_ren]
    exact addV_map _ [] (fun u v hu hv => inj u v ((mlr u).mpr hu) ((mlr v).mpr hv))
  have num : ∀ u, u ∈ lr → ix lc (π u) = ix lr u := fun u hu => by
    rw [elc]
    exact ix_map lr hu (fun v hv e => inj v u hv hu e)
  have nm : ∀ τ, (∀ u, u ∈ vs τ → u ∈ lr) → nmT (ix lc) (sub (fun u => vr (π u)) τ) = nmT (ix lr) τ := fun τ h => by
    unfold nmT
    rw [sub_sub]
    refine sub_cg _ (fun u hu => ?_)
    show vr (ix lc (π u)) = vr (ix lr u)
    rw [num u (h u hu)]
  obtain ⟨pv1, pv2, pv3⟩ := pth.vt G vli
  have pl := pv3.lt
  have k1 : 1 ≤ k := by have := (G.sz_le pv1.1).2.1; omega
  have eX : X = Kt (hdS B s) (f1S s) (f2S s) (nv B s (ρB B β)) l (nv B s (ρB B β) yrj) := by
    show rpF B β rj (lN p) 30 li (lN 1) = _
    rw [Pth.rp G sw hn vli (by omega) l x0 t p k pth Und.rf, erj]
    obtain ⟨k2, rfl⟩ : ∃ k2, k = k2 + 1 := ⟨k - 1, by omega⟩
    have : rpF B β rj (lN p) (k2 + 1) t (lN p) = TR B β 4 rj := if_pos rfl
    rw [this]
  have eY : Y = sub (fun u => vr (π u)) X := by
    show Kt _ _ _ _ l _ = _
    rw [eX, Kt_sub (T2 := nv B s (ρC B s bc)) l _ (fun o i hm => by
      obtain ⟨o1, o2⟩ := Pth.mem l x0 t p k pth o i hm
      have := sh.2.2.1 o o2 o1
      exact ⟨nodes _ this.1, nodes _ this.2⟩)]
    congr 1
    rw [erj, erj]
    exact rn.tv G vrj
  have eR : nv B s (ρC B s bc) yri = sub (fun u => vr (π u)) (TR B β 0 ri) := by
    rw [eri]
    exact rn.tv G vri
  have inX : ∀ u, u ∈ vs X → u ∈ lr := fun u hu => by
    rw [mlr]
    rcases rp_vs G 30 li (lN 1) vli hu with z | z
    · obtain ⟨v, v1, v2, v3⟩ := (tv_vs G (rj + 1) rj (by omega) vrj.1).mp z
      have y1 : u ∈ vs (tv B (ρB B β) 4 lj) := (tv_vs G (lj + 1) lj (by omega) vlj.1).mpr ⟨v, v1, ij v v1 v2, v3⟩
      rw [← elj, ← solr, ex] at y1
      obtain ⟨c, c1, c2, c3⟩ := (tv_vs G (t + 1) t (by omega) pv1.1).mp y1
      exact (tv_vs G (li + 1) li (by omega) vli.1).mpr ⟨c, c1, Pth.ct G c1 vli l x0 t p k pth c2, c3⟩
    · exact z
  have inR : ∀ u, u ∈ vs (TR B β 0 ri) → u ∈ lr := fun u hu => by
    rw [mlr]
    obtain ⟨v, v1, v2, v3⟩ := (tv_vs G (ri + 1) ri (by omega) vri.1).mp hu
    exact (tv_vs G (li + 1) li (by omega) vli.1).mpr ⟨v, v1, ii v v1 v2, v3⟩
  have map_in : ∀ τ, (∀ u, u ∈ vs τ → u ∈ lr) → ∀ u, u ∈ vs (sub (fun u => vr (π u)) τ) → u ∈ lc := fun τ h u hu => by
    rw [vs_ren] at hu
    obtain ⟨v, v1, v2⟩ := List.mem_map.mp hu
    rw [elc, ← v2]
    exact List.mem_map.mpr ⟨v, h v v1, rfl⟩
  refine ⟨by rw [eY]; exact nm X inX, by rw [eR]; exact nm _ inR, inX, inR, by rw [eY]; exact map_in X inX, by rw [eR]; exact map_in _ inR, ?_, ?_⟩
  · rw [eY, tht_ren]
    exact rp_ht G gb vrj 30 li (lN 1) vli
  · rw [eR, tht_ren]
    exact tv_ht270 G gb vri
/-! what is told of two rules: the state -/
abbrev tlS : Nat → Bool := fun k => blS k || uS k || cpS k || k == 16
abbrev rwA : Nat → Bool := fun k => decide (44 < k) && decide (k < 50)
abbrev tlA : Nat → Bool := fun k => blA k || uA k || nvA k || crA k || rwA k
abbrev mtS : Nat → Bool := fun k => buS k || nuS k || k == 14
abbrev mtA : Nat → Bool := fun k => buA k || unA k || nuA k || k == 27 || k == 28
theorem or_f {a b : Bool} (h : (a || b) = false) : a = false ∧ b = false := Bool.or_eq_false_iff.mp h
theorem Fr.tlb {w w2 : Wd} (h : Fr blS blA w w2) : Fr tlS tlA w w2 := h.mn (fun k hk => (or_f (or_f (or_f hk).1).1).1) (fun k hk => (or_f (or_f (or_f (or_f hk).1).1).1).1)
theorem Fr.tlu {w w2 : Wd} (h : Fr uS uA w w2) : Fr tlS tlA w w2 := h.mn (fun k hk => (or_f (or_f (or_f hk).1).1).2) (fun k hk => (or_f (or_f (or_f (or_f hk).1).1).1).2)
theorem Fr.tln {w w2 : Wd} (h : Fr noS nvA w w2) : Fr tlS tlA w w2 := h.mn (fun k hk => rfl) (fun k hk => (or_f (or_f (or_f hk).1).1).2)
theorem Fr.tlc {w w2 : Wd} (h : Fr cpS crA w w2) : Fr tlS tlA w w2 := h.mn (fun k hk => (or_f (or_f hk).1).2) (fun k hk => (or_f (or_f hk).1).2)
theorem Fr.mtw {w w2 : Wd} (h : Fr wkS unA w w2) : Fr mtS mtA w w2 := h.mn (fun k hk => (or_f (or_f (or_f hk).1).2).1) (fun k hk => (or_f (or_f (or_f (or_f hk).1).1).1).2)
theorem Fr.mtx {w w2 : Wd} (h : Fr wkS noA w w2) : Fr mtS mtA w w2 := h.mn (fun k hk => (or_f (or_f (or_f hk).1).2).1) (fun k hk => rfl)
theorem Fr.mtn {w w2 : Wd} (h : Fr nuS nuA w w2) : Fr mtS mtA w w2 := h.mn (fun k hk => (or_f (or_f hk).1).2) (fun k hk => (or_f (or_f (or_f hk).1).1).2)
theorem Fr.mtb {w w2 : Wd} (h : Fr buS buA w w2) : Fr mtS mtA w w2 := h.mn (fun k hk => (or_f (or_f hk).1).1) (fun k hk => (or_f (or_f (or_f (or_f hk).1).1).1).1)
/-- rows that are told anew -/
def Rw (B : Bk) (fs k : Nat) (wc wm : Wd) : Prop := k ≤ 60 ∧ sI wc 16 = nI k ∧ sI wm 14 = nI k ∧ ∀ q, q < k → aI wc 45 (fs + q) = aI wm 27 (4 * q) ∧ aI wc 46 (fs + q) = aI wm 27 (4 * q + 1) ∧ aL wc 47 (fs + q) = aL wm 28 q ∧ aI wc 48 (fs + q) = aI wm 27 (4 * q + 2) ∧ aI wc 49 (fs + q) = aI wm 27 (4 * q + 3) ∧ (∃ x, x < nB B ∧ aI wm 27 (4 * q + 2) = nI x) ∧ ∃ x, x < nB B ∧ aI wm 27 (4 * q + 3) = nI x
theorem Rw.k {S A S2 A2 : Nat → Bool} {B B2 : Bk} {fs k : Nat} {wc wm c2 m2 : Wd} (h : Rw B fs k wc wm) (en : nB B ≤ nB B2) (f : Fr S A wc c2) (g : Fr S2 A2 wm m2) (s1 : S 16 = false := by rfl) (s2 : S2 14 = false := by rfl) (a1 : A 45 = false := by rfl) (a2 : A 46 = false := by rfl) (a3 : A 47 = false := by rfl) (a4 : A 48 = false := by rfl) (a5 : A 49 = false := by rfl) (b1 : A2 27 = false := by rfl) (b2 : A2 28 = false := by rfl) : Rw B2 fs k c2 m2 := by
  unfold Rw
  rw [f.1 16 s1, g.1 14 s2, (f.2 45 a1).1, (f.2 46 a2).1, (f.2 47 a3).2, (f.2 48 a4).1, (f.2 49 a5).1, (g.2 27 b1).1, (g.2 28 b2).2]
  refine ⟨h.1, h.2.1, h.2.2.1, fun q hq => ?_⟩
  obtain ⟨q1, q2, q3, q4, q5, ⟨x, x1, x2⟩, ⟨y, y1, y2⟩⟩ := h.2.2.2 q hq
  exact ⟨q1, q2, q3, q4, q5, ⟨x, Nat.lt_of_lt_of_le x1 en, x2⟩, ⟨y, Nat.lt_of_lt_of_le y1 en, y2⟩⟩
/-- rows told before stay -/
def Old (st : Nat) (wc0 wc : Wd) : Prop := ∀ q, q < 60 → aI wc 45 (st + q) = aI wc0 45 (st + q) ∧ aI wc 46 (st + q) = aI wc0 46 (st + q) ∧ aL wc 47 (st + q) = aL wc0 47 (st + q) ∧ aI wc 48 (st + q) = aI wc0 48 (st + q) ∧ aI wc 49 (st + q) = aI wc0 49 (st + q)
theorem Old.rf {st : Nat} (w : Wd) : Old st w w := fun _ _ => ⟨rfl, rfl, rfl, rfl, rfl⟩
theorem Old.tr {st : Nat} {w w2 w3 : Wd} (h : Old st w w2) (g : Old st w2 w3) : Old st w w3 := fun q hq => by
  obtain ⟨a1, a2, a3, a4, a5⟩ := h q hq
  obtain ⟨b1, b2, b3, b4, b5⟩ := g q hq
  exact ⟨b1.trans a1, b2.trans a2, b3.trans a3, b4.trans a4, b5.trans a5⟩
theorem Old.of {S A : Nat → Bool} {st : Nat} {w w2 : Wd} (f : Fr S A w w2) (a1 : A 45 = false := by rfl) (a2 : A 46 = false := by rfl) (a3 : A 47 = false := by rfl) (a4 : A 48 = false := by rfl) (a5 : A 49 = false := by rfl) : Old st w w2 := fun q _ => by
  rw [(f.2 45 a1).1, (f.2 46 a2).1, (f.2 47 a3).2, (f.2 48 a4).1, (f.2 49 a5).1]
  exact ⟨rfl, rfl, rfl, rfl, rfl⟩
def LI (B0 : Bk) (s : Sht) (n0 st fs : Nat) (wc0 wm0 : Wd) (B : Bk) (k : Nat) (wc wm : Wd) : Prop :=
  Ext B0 B ∧ GB B ∧ RB B wc ∧ RM B wm ∧ Rw B fs k wc wm ∧ Fr tlS tlA wc0 wc ∧ Fr mtS mtA wm0 wm ∧ Old st wc0 wc ∧ SW B0 s n0 wc
/-- too many terms -/
def Ful (B0 : Bk) (st : Nat) (wc0 wm0 wc wm : Wd) : Prop := (∃ B2, GB B2 ∧ Ext B0 B2 ∧ RB B2 wc) ∧ Fr tlS tlA wc0 wc ∧ Old st wc0 wc ∧ OvB B0 wm ∧ Fr mtS mtA wm0 wm
/-- what two rules and their sheet are -/
def CS (B0 : Bk) (s : Sht) (n0 le yri ylj yrj i j : Nat) (R : Ru) (wc0 wm0 : Wd) (fs st : Nat) : Prop :=
  GB B0 ∧ GR B0 R ∧ i < R.1 ∧ j < R.1 ∧ RRm R wm0 ∧ 9 ≤ n0 ∧ n0 ≤ 128 ∧ le ≤ n0 ∧ sI wc0 6 = nI le ∧ sI wc0 7 = nI yri ∧ sI wc0 8 = nI ylj ∧ sI wc0 9 = nI yrj ∧ sI wc0 18 = nI fs ∧ (st = 0 ∧ fs = 60 ∨ st = 60 ∧ fs = 0) ∧
  Chd B0 s 8 n0 yri (R.2.2.1 i) 0 ∧ Chd B0 s 8 n0 ylj (R.2.1 j) 4 ∧ Chd B0 s 8 n0 yrj (R.2.2.1 j) 4 ∧ 8 ≤ ylj ∧ tmS s 8 = R.2.1 i ∧ msS s 8 = 0
theorem GR.vt {B : Bk} {R : Ru} (h : GR B R) {r m : Nat} (hr : r < R.1) (hm : m = 0 ∨ m = 4) : VT B (R.2.1 r) m ∧ VT B (R.2.2.1 r) m := by
  obtain ⟨a1, a2, a3, a4, a5, a6, a7⟩ := h.2 r hr
  exact ⟨⟨a1, a4, a6, hm⟩, ⟨a2, a5, fun v h4 h8 => a7 v h8 (a6 v h4 h8), hm⟩⟩
/-- the reference clears its bindings -/
theorem mClear {N D : Nat} {x1 x2 x3 : Int32} {x4 : Int64} : ∀ j f v w, 8 - v ≤ j → v ≤ 8 → j < f → (∀ u, u < v → aI w 19 u = -1 ∧ aI w 21 u = -1) →
    ∃ w2, (∀ self, ∃ f2, fX11_meet_40 N D self f w x1 x2 x3 x4 (nI v) = bX11_meet_40 N D self (fX11_meet_40 N D self f2) w2 x1 x2 x3 x4 (nI 8)) ∧ Fr noS (fun k => k == 19 || k == 21) w w2 ∧ ∀ u, u < 8 → aI w2 19 u = -1 ∧ aI w2 21 u = -1 := by
  intro j
  induction j with
  | zero =>
    intro f v w hj hv hf hx
    obtain ⟨f, rfl⟩ : ∃ f2, f = f2 + 1 := ⟨f - 1, by omega⟩
    have e : v = 8 := by omega
    subst e
    exact ⟨w, fun self => ⟨f, rfl⟩, Fr.rf w, hx⟩
  | succ j ih =>
    intro f v w hj hv hf hx
    obtain ⟨f, rfl⟩ : ∃ f2, f = f2 + 1 := ⟨f - 1, by omega⟩
    by_cases e : v = 8
    · subst e
      exact ⟨w, fun self => ⟨f, rfl⟩, Fr.rf w, hx⟩
    · obtain ⟨w2, o1, o2, o3⟩ := ih f (v + 1) (pA (pA w 19 (upd (aI w 19) v (-1))) 21 (upd (aI w 21) v (-1))) (by omega) (by omega) (by omega) (fun u hu => by
        show upd (aI w 19) v (-1) u = -1 ∧ upd (aI w 21) v (-1) u = -1
        by_cases z : u = v
        · rw [z, upd_s, upd_s]; exact ⟨rfl, rfl⟩
        · rw [upd_n z, upd_n z]; exact hx u (by omega))
      refine ⟨w2, fun self => ?_, (((Fr.rf w).pa (k := 19) rfl).pa (k := 21) rfl).tr o2, o3⟩
      obtain ⟨f2, o1⟩ := o1 self
      refine ⟨f2, ?_⟩
      have key : fX11_meet_40 N D self (f + 1) w x1 x2 x3 x4 (nI v) = fX11_meet_40 N D self f (pA (pA w 19 (upd (aI w 19) v (-1))) 21 (upd (aI w 21) v (-1))) x1 x2 x3 x4 (nI (v + 1)) := by
        have k0 : fX11_meet_40 N D self (f + 1) w x1 x2 x3 x4 (nI v) = bX11_meet_40 N D self (fX11_meet_40 N D self f) w x1 x2 x3 x4 (nI v) := rfl
        rw [k0]
        unfold bX11_meet_40
        rw [if_neg (by rw [show (8 : Int32) = nI 8 from rfl, nI_leI (by omega) (by omega)]; omega), st_n (by omega) (by omega), st_n (by omega) (by omega)]
        simp only [c_nm]
        rw [nI_1]
        rfl
      rw [key]
      exact o1
