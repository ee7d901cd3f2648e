/-! the class numbers variables -/
/-- trees of nodes, by what they become -/
def TS (n : Nat) (hd f1 f2 bc : Nat → Nat) (T : Nat → Tr) : Prop :=
  (∀ x, x < n → bc x < n ∧ bc (bc x) = bc x ∧ T (bc x) = T x) ∧ (∀ x, x < n → bc x = x → x < 8 → T x = vr x) ∧
  (∀ x, x < n → 8 ≤ x → T x = nd (hd x) (T (f1 x)) (T (f2 x)) ∧ (f1 x < n ∨ f1 x = 2000) ∧ (f2 x < n ∨ f2 x = 2000)) ∧ T 2000 = no ∧ n ≤ 158
def TW (n : Nat) (hd f1 f2 bc : Nat → Nat) (w : Wd) : Prop := (∀ x, x < n → aI w 59 x = nI (bc x)) ∧ ∀ x, 8 ≤ x → x < n → aI w 50 x = nI (hd x) ∧ aI w 51 x = eN (f1 x) ∧ aI w 52 x = eN (f2 x)
theorem TW.k {S A : Nat → Bool} {n : Nat} {hd f1 f2 bc : Nat → Nat} {w w2 : Wd} (h : TW n hd f1 f2 bc w) (f : Fr S A w w2) (a0 : A 50 = false := by rfl) (a1 : A 51 = false := by rfl) (a2 : A 52 = false := by rfl) (a9 : A 59 = false := by rfl) : TW n hd f1 f2 bc w2 := by
  unfold TW
  rw [(f.2 50 a0).1, (f.2 51 a1).1, (f.2 52 a2).1, (f.2 59 a9).1]
  exact h
/-- how many are not met -/
def cU (M : Nat → Bool) : Nat → Nat
  | 0 => 0
  | n + 1 => cU M n + (if M n = true then 0 else 1)
theorem cU_cg {M M2 : Nat → Bool} : ∀ n, (∀ x, x < n → M2 x = M x) → cU M2 n = cU M n := by
  intro n
  induction n with
  | zero => intro _; rfl
  | succ n ih =>
    intro h
    unfold cU
    rw [ih (fun x hx => h x (by omega)), h n (by omega)]
theorem cU_le {M : Nat → Bool} : ∀ n, cU M n ≤ n := by
  intro n
  induction n with
  | zero => exact Nat.le_refl _
  | succ n ih => unfold cU; split <;> omega
theorem cU_upd {M : Nat → Bool} {a : Nat} (ha : M a = false) : ∀ n, a < n → cU (fu M a true) n + 1 = cU M n := by
  intro n
  induction n with
  | zero => intro h; omega
  | succ n ih =>
    intro h
    unfold cU
    by_cases e : a = n
    · subst e
      rw [fu_s, if_pos rfl, if_neg (by rw [ha]; exact Bool.false_ne_true), cU_cg a (fun x hx => fu_n (by omega))]
    · rw [fu_n (by omega : n ≠ a)]
      have := ih (by omega)
      omega
theorem addV_in : ∀ (r l : List Nat), (∀ u, u ∈ r → u ∈ l) → addV l r = l := by
  intro r
  induction r with
  | nil => intro l _; rfl
  | cons x r ih =>
    intro l h
    show addV (if x ∈ l then l else l ++ [x]) r = l
    rw [if_pos (h x List.mem_cons_self)]
    exact ih l (fun u hu => h u (List.mem_cons_of_mem _ hu))
/-- the stack -/
def SA : List Nat → Wd → Prop
  | [] => fun _ => True
  | y :: st => fun w => aI w 34 st.length = nI y ∧ SA st w
theorem SA.k {w w2 : Wd} : ∀ st : List Nat, (∀ i, i < st.length → aI w2 34 i = aI w 34 i) → SA st w → SA st w2 := by
  intro st
  induction st with
  | nil => intro _ _; trivial
  | cons y st ih =>
    intro h g
    rw [List.length_cons] at h
    exact ⟨by rw [h _ (by omega)]; exact g.1, ih (fun i hi => h i (by omega)) g.2⟩
def ps (y : Nat) (st : List Nat) : List Nat := if y = 2000 then st else y :: st
theorem ps_len (y : Nat) (st : List Nat) : (ps y st).length ≤ st.length + 1 ∧ st.length ≤ (ps y st).length := by
  unfold ps
  split
  · omega
  · rw [List.length_cons]; omega
abbrev skA : Nat → Bool := fun k => k == 34
theorem cPush {N d y : Nat} {w : Wd} {st : List Nat} (hy : y < 158 ∨ y = 2000) (hl : st.length < 158) (h : SA st w) : ∃ w2, eX1_push N (d + 1) w (eN y) (nI st.length) = some (w2, nI (ps y st).length) ∧ Fr noS skA w w2 ∧ SA (ps y st) w2 ∧ ∀ i, i < st.length → aI w2 34 i = aI w 34 i := by
  have key : eX1_push N (d + 1) w (eN y) (nI st.length) = bX1_push_0 N d w (eN y) (nI st.length) := rfl
  rw [key]
  unfold bX1_push_0 bX1_push_14 ps
  by_cases q : y = 2000
  · rw [q, eN_no, if_pos rfl, if_pos rfl]
    exact ⟨w, rfl, Fr.rf w, h, fun _ _ => rfl⟩
  · rw [if_neg (eN_m1 (by omega)), if_neg q, if_pos (by rw [show (158 : Int32) = nI 158 from rfl, nI_ltI (by omega) (by omega)]; exact hl), st_n hl (by omega), nI_1]
    refine ⟨_, rfl, (Fr.rf w).pa (k := 34) rfl, ⟨?_, ?_⟩, fun i hi => upd_n (by omega)⟩
    · show upd (aI w 34) st.length (eN y) st.length = _
      rw [upd_s, eN_n (by omega)]
    · exact SA.k st (fun i hi => upd_n (by omega)) h
theorem nI_m (k : Nat) : nI (k + 1) + (-1) = nI k := by
  rw [← nI_1, Int32.add_assoc, show (1 : Int32) + -1 = 0 from by decide, Int32.add_zero]
abbrev nvA : Nat → Bool := fun k => k == 31 || k == 32 || k == 34
theorem Fr.sk {w w2 : Wd} (h : Fr noS skA w w2) : Fr noS nvA w w2 := h.mn (fun _ h => h) (fun k hk => by
  have := Bool.or_eq_false_iff.mp hk
  exact this.2)
def MW (n : Nat) (M : Nat → Bool) (w : Wd) : Prop := ∀ x, x < n → aI w 32 x = b2 (M x)
def NW (l : List Nat) (w : Wd) : Prop := ∀ v, v ∈ l → aI w 31 v = nI (ix l v)
theorem cNumT {N d y x lk len : Nat} {w : Wd} {many : Int32} (hl : len < 158) (h34 : aI w 34 len = nI y) (hy : y < 158) (h59 : aI w 59 y = nI x) (hx : x < 158) (h32 : aI w 32 x = 1) (hlk : lk ≤ 1000) (f : Nat) :
    fX1_numberVariables_38 N d (f + 1) w many (nI (len + 1)) (nI lk) = fX1_numberVariables_38 N d f w many (nI len) (nI (lk + 1)) := by
  have key : fX1_numberVariables_38 N d (f + 1) w many (nI (len + 1)) (nI lk) = bX1_numberVariables_38 N d (fX1_numberVariables_38 N d f) w many (nI (len + 1)) (nI lk) := rfl
  rw [key]
  unfold bX1_numberVariables_38 bX1_numberVariables_142
  rw [if_neg (by rw [show (1000000 : Int32) = nI 1000000 from rfl, nI_leI (by omega) (by omega)]; omega), if_neg (by rw [show (0 : Int32) = nI 0 from rfl, nI_leI (by omega) (by omega)]; omega)]
  rw [nI_m]
  simp only [c_nm]
  rw [ ld_n hl (by omega), h34, ld_n hy (by omega), h59, ld_n hx (by omega), h32, if_neg i10, nI_1]
theorem cNumF {N d y x lk len : Nat} {w : Wd} {many : Int32} (hl : len < 158) (h34 : aI w 34 len = nI y) (hy : y < 158) (h59 : aI w 59 y = nI x) (hx : x < 158) (h32 : aI w 32 x = 0) (hlk : lk ≤ 1000) (f : Nat) :
    fX1_numberVariables_38 N d (f + 1) w many (nI (len + 1)) (nI lk) = (c_cl (eX5_isVariable N d (pA w 32 (upd (aI w 32) x (vp_nar .boolean 1))) (nI x)) fun w8 v9 =>
          if v9 = 0 then (c_ld w8 52 158 (nI x) fun v10 => c_cl (eX1_push N d w8 v10 (nI len)) fun w11 v12 => c_ld w11 51 158 (nI x) fun v13 => c_cl (eX1_push N d w11 v13 v12) fun w14 v15 => fX1_numberVariables_38 N d f w14 many v15 (nI (lk + 1)))
          else c_st w8 31 8 (nI x) many fun w17 => fX1_numberVariables_38 N d f w17 (many + 1) (nI len) (nI (lk + 1))) := by
  have key : fX1_numberVariables_38 N d (f + 1) w many (nI (len + 1)) (nI lk) = bX1_numberVariables_38 N d (fX1_numberVariables_38 N d f) w many (nI (len + 1)) (nI lk) := rfl
  rw [key]
  unfold bX1_numberVariables_38 bX1_numberVariables_142
  rw [if_neg (by rw [show (1000000 : Int32) = nI 1000000 from rfl, nI_leI (by omega) (by omega)]; omega), if_neg (by rw [show (0 : Int32) = nI 0 from rfl, nI_leI (by omega) (by omega)]; omega)]
  rw [nI_m]
  simp only [c_nm]
  rw [ ld_n hl (by omega), h34, ld_n hy (by omega), h59, ld_n hx (by omega), h32, if_pos i00, sz_n hx (by omega)]
  simp only [nI_1]
