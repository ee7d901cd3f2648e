theorem wObj : Cond.code objectInit ⟨#[0xb1]⟩ 1 none ∈ gG := gG_t 28 (by decide +kernel) (by first | rfl | decide +kernel)
abbrev nst3 : Cond := .methodLinkNest RX10 14 yX4_init RX10
abbrev nst4 : Cond := .methodLinkNest RX3 11 yX6_init RX10
abbrev nst5 : Cond := .methodLinkNest RX1 11 yX2_init RX10
abbrev nst6 : Cond := .methodLinkNest RX10 57 yX6_init RX10
def KI (V : Ev) (U : State) : Prop := KX V U ∧ va_Nw nst3 U ∧ va_Nw nst4 U ∧ va_Nw nst5 U ∧ va_Nw nst6 U
theorem KI.warm {V : Ev} {s U : State} (h : KI V s) (hW : s.WarmedH U.vm) : KI V U := ⟨h.1.warm hW, va_Nw.warmM hW h.2.1, va_Nw.warmM hW h.2.2.1, va_Nw.warmM hW h.2.2.2.1, va_Nw.warmM hW h.2.2.2.2⟩
theorem KI.same {V : Ev} {s U : State} (h : KI V s) (hv : s.vm = U.vm) : KI V U := ⟨h.1.same hv, va_Nw.same rfl hv h.2.1, va_Nw.same rfl hv h.2.2.1, va_Nw.same rfl hv h.2.2.2.1, va_Nw.same rfl hv h.2.2.2.2⟩
section RN
variable {V : Ev} {A : Nat → Prop} {p : Program} {l : Launch} {e : Env} {R : Room} {s : State} {m : MethodId} {args : Array Value} {below : List Frame} {meth : Method} {c : Code} {H : Heap} {locs : List Loc} {cells slots : Nat} {Q : State → Prop} {cc : ByteArray} {nL : Nat} {own : String} {rt : Option FieldType} {pc : Nat} {ls : Array Slot} {rest : List Value} {ws : va_W}
theorem ka_eq {D : va_G} {t : List (ClassId × FieldType)} {cA cB : ClassId} {ty : FieldType} (h : va_K D clsAll (t ++ [(cA, ty)]) s) (i : Nat) (hi : t[i]? = some (cB, ty)) (hty : ∀ C, ty ≠ .object C) : cA = cB := by
  have h1 := (h.2 t.length (cA, ty) (by simp)).2
  have hl : i < t.length := (List.getElem?_eq_some_iff.mp hi).1
  have h2 := (h.2 i (cB, ty) (by rw [List.getElem?_append_left hl]; exact hi)).2
  cases ty with
  | object C => exact absurd rfl (hty C)
  | _ => exact Option.some.inj (h1.symm.trans h2)
theorem r_newI {n : Int32} {N9 : Nat} (X : CX V p s m args meth c cc nL own rt) (hP : va_P V.1 clsAll ws H) (hD : va_D A ws) (hS : va_S A s.heap H locs) (hA : ∀ q : Nat, s.heap.size ≤ q → A q) (hn : ¬ n < 0) (hN : n.toNatClampNeg = N9) (hN2 : N9 ≤ 8000) (hcells : cells + 1 ≤ R.cells) (hslots : slots + N9 ≤ R.slots) (dg : decode cc pc = .ok (.newarray .int, 2))
    (kk : ∀ (q : Nat) (H1 : Heap), va_P V.1 clsAll (ws ++ [(q, .inl (V.2.1 0, N9, .inl (fun _ => (0 : Int32))))]) H1 → va_D A (ws ++ [(q, .inl (V.2.1 0, N9, .inl (fun _ => (0 : Int32))))]) → va_S A s.heap H1 locs → W p l e R s m args below meth c H1 locs (cells + 1) (slots + N9) Q (F0 m (pc + 2) ls (.ref q :: rest))) : W p l e R s m args below meth c H locs cells slots Q (F0 m pc ls (.int n :: rest)) := by
  refine va_newa (atype := .int) (ty := .int) (a0 := (N9, .inl (fun _ => (0 : Int32)))) X.1 X.2.1 (X.2.2.2.2.1 _ wA_int) rfl X.2.2.2.2.2.2.2.1 hP hD hS hA (fun cA => rfl) hn hN (by show N9 * 4 ≤ 536870912; omega) hcells hslots dg (fun q cA H1 hK2 hP hD hS => ?_)
  obtain rfl := ka_eq hK2 0 rfl (fun C h => by cases h)
  exact kk q H1 hP hD hS
theorem r_newJ {n : Int32} {N9 : Nat} (X : CX V p s m args meth c cc nL own rt) (hP : va_P V.1 clsAll ws H) (hD : va_D A ws) (hS : va_S A s.heap H locs) (hA : ∀ q : Nat, s.heap.size ≤ q → A q) (hn : ¬ n < 0) (hN : n.toNatClampNeg = N9) (hN2 : N9 ≤ 8000) (hcells : cells + 1 ≤ R.cells) (hslots : slots + N9 ≤ R.slots) (dg : decode cc pc = .ok (.newarray .long, 2))
    (kk : ∀ (q : Nat) (H1 : Heap), va_P V.1 clsAll (ws ++ [(q, .inl (V.2.1 1, N9, .inr (.inl (fun _ => (0 : Int64)))))]) H1 → va_D A (ws ++ [(q, .inl (V.2.1 1, N9, .inr (.inl (fun _ => (0 : Int64)))))]) → va_S A s.heap H1 locs → W p l e R s m args below meth c H1 locs (cells + 1) (slots + N9) Q (F0 m (pc + 2) ls (.ref q :: rest))) : W p l e R s m args below meth c H locs cells slots Q (F0 m pc ls (.int n :: rest)) := by
  refine va_newa (atype := .long) (ty := .long) (a0 := (N9, .inr (.inl (fun _ => (0 : Int64))))) X.1 X.2.1 (X.2.2.2.2.1 _ wA_long) rfl X.2.2.2.2.2.2.2.1 hP hD hS hA (fun cA => rfl) hn hN (by show N9 * 8 ≤ 536870912; omega) hcells hslots dg (fun q cA H1 hK2 hP hD hS => ?_)
  obtain rfl := ka_eq hK2 1 rfl (fun C h => by cases h)
  exact kk q H1 hP hD hS
theorem r_newZ {n : Int32} {N9 : Nat} (X : CX V p s m args meth c cc nL own rt) (hP : va_P V.1 clsAll ws H) (hD : va_D A ws) (hS : va_S A s.heap H locs) (hA : ∀ q : Nat, s.heap.size ≤ q → A q) (hn : ¬ n < 0) (hN : n.toNatClampNeg = N9) (hN2 : N9 ≤ 8000) (hcells : cells + 1 ≤ R.cells) (hslots : slots + N9 ≤ R.slots) (dg : decode cc pc = .ok (.newarray .boolean, 2))
    (kk : ∀ (q : Nat) (H1 : Heap), va_P V.1 clsAll (ws ++ [(q, .inl (V.2.1 2, N9, .inl (fun _ => (0 : Int32))))]) H1 → va_D A (ws ++ [(q, .inl (V.2.1 2, N9, .inl (fun _ => (0 : Int32))))]) → va_S A s.heap H1 locs → W p l e R s m args below meth c H1 locs (cells + 1) (slots + N9) Q (F0 m (pc + 2) ls (.ref q :: rest))) : W p l e R s m args below meth c H locs cells slots Q (F0 m pc ls (.int n :: rest)) := by
  refine va_newa (atype := .boolean) (ty := .boolean) (a0 := (N9, .inl (fun _ => (0 : Int32)))) X.1 X.2.1 (X.2.2.2.2.1 _ wA_boolean) rfl X.2.2.2.2.2.2.2.1 hP hD hS hA (fun cA => rfl) hn hN (by show N9 * 1 ≤ 536870912; omega) hcells hslots dg (fun q cA H1 hK2 hP hD hS => ?_)
  obtain rfl := ka_eq hK2 2 rfl (fun C h => by cases h)
  exact kk q H1 hP hD hS
end RN
