theorem met_ofWH {l : Launch} {y : MethodName} {ws ws' : List Cond} {rm : Room} {Pc : Array Value → State → Prop} {Qc : Array Value → State → Outcome → State → Prop} {mc ms : Nat} {free : Addr → Prop} {cc : ByteArray} {maxL : Nat} {ret : Option FieldType} {hh : List (Nat × Nat × Nat × Nat)}
    (hy : plainName y.cls = true) (hw : ws = Cond.codeWith y cc maxL ret hh :: ws')
    (body : ∀ p e s m args below meth c s₁, BodyLoose p l y (headSpec ws rm) cc maxL ret e s m args below meth c s₁ → c.maxLocals = maxL → Pc args s →
      W p l e (headSpec ws rm).room s m args below meth c s.heap [] 0 0 (MQ below Qc args s mc ms free) (entryFrame m args maxL)) : Met l y ws rm Pc Qc mc ms free := by
  refine MetFree.of_bodyS (code := cc) (maxLocals := maxL) (ret := ret) hy ?_ ?_
  · intro args s m h hn
    obtain ⟨m9, meth, c, hn9, h1, h2, h3, h4, -, h5, h6, -⟩ := Cond.codeWith_spec (atoms_spec (ws := ws) h _ (by rw [hw]; exact List.mem_cons_self))
    cases hn.symm.trans hn9
    exact ⟨meth, c, h1, h2, h3, h4, h5, h6⟩
  · intro p e s m args below meth c s₁ B hml hP _
    have hh0 : s₁.heap = s.heap := by rw [B.state]; rfl
    obtain ⟨t, a1, o, b1, b2, b3⟩ := body p e s m args below meth c s₁ B hml hP s₁ hh0 (Stand.of_body B)
    exact ⟨t, o, a1, b1, b2, ⟨b3.1, b3.2⟩⟩
def A8 (V : Ev) (bo sz : Nat) (q : Nat) : Prop := AC V q ∨ q = bo ∨ sz ≤ q
def rmL (d : Nat) : Room := { frames := d + 9, cells := 1, slots := 6, locals := 46 * d + 300 }
abbrev ocell (V : Ev) (bo : Nat) (o : Nat → Int64) : Nat × va_E := (bo, .inl (V.2.1 1, 1, .inr (.inl o)))
def PcL (V : Ev) (sa bo sz : Nat) (av : List Value) (w : Wd) (o : Nat → Int64) : Array Value → State → Prop := va_Pc av (fun U => U.heap.size = sz ∧ va_P V.1 clsAll (cC V w ++ [ocell V bo o]) U.heap ∧ KX V U ∧ KP sa U ∧ zU (A8 V bo sz) U U.heap)
def QcL (V : Ev) (bo sz : Nat) (z : Wd × Option Int32) (o : Nat → Int64) : Array Value → State → Outcome → State → Prop := va_Qi (fun k (u : Nat → Int64) => (∃ r, z.2 = some r ∧ k = 0 ∧ u = vp_updL o 0 r.toInt64) ∨ (z.2 = none ∧ k = 1 ∧ u = o)) (fun u t => va_P V.1 clsAll (cC V z.1 ++ [ocell V bo u]) t.heap) (A8 V bo sz)
set_option maxHeartbeats 4000000 in
theorem mL_part {l : Launch} {V : Ev} {N d sa : Nat} {w : Wd} {x1 x2 : Int32} {z : Wd × Option Int32} (htr : l.stackTraces = false) (hD1 : ∀ w, va_D (AC V) (cC V w)) (bo sz : Nat) (hbo : ¬ AC V bo) (o : Nat → Int64) (h : eX10_part N d w x1 x2 = some z) : Met l yL_part (.codeWith yL_part cL_part 5 (some .int) [(0, 10, 13, 13)] :: gG) (rmL d) (PcL V sa bo sz [.ref (V.2.2 0), .int x1, .int x2, .ref bo] w o) (QcL V bo sz z o) 1 6 (A8 V bo sz) := by
  refine met_ofWH (cc := cL_part) (maxL := 5) (ret := some .int) (by decide) rfl ?_
  intro p e s m args below meth c s₁ B hml hv
  obtain ⟨rfl, rfl, hP, hK, hKP, hZ⟩ := hv
  have hts := atoms_spec (ws := .codeWith yL_part cL_part 5 (some .int) [(0, 10, 13, 13)] :: gG) B.pre
  have htab : c.exceptionTable.toList = tableOf [(0, 10, 13, 13)] := vx_table (x := yL_part) B (hts _ List.mem_cons_self)
  have X : CX V p s m ([.ref (V.2.2 0), .int x1, .int x2, .ref bo] : List Value).toArray meth c cL_part 5 RL (some .int) := ⟨B.exec, B.bytes, hml, findClass_of_methodNamed B.named, fun w hw => hts w (List.mem_cons_of_mem _ hw), B.returns, B.notSynchronized, hK⟩
  obtain ⟨hx, hb, -, hown, hg, hrt, hlk, -⟩ := id X
  have hl := lv_entry ([.ref (V.2.2 0), .int x1, .int x2, .ref bo] : List Value) (n := 5) (Nat.le_of_ble_eq_true rfl)
  rw [lg_entry_eq]
  generalize (lg_sl ([.ref (V.2.2 0), .int x1, .int x2, .ref bo] : List Value) ++ List.replicate (5 - (lg_sl ([.ref (V.2.2 0), .int x1, .int x2, .ref bo] : List Value)).length) Slot.unset).toArray = ls at hl ⊢
  have hl : lv_has ls 5 [(0, .ref (V.2.2 0)), (1, .int x1), (2, .int x2), (3, .ref bo)] := hl
  have hPc : va_P V.1 clsAll (cC V w) s.heap := fun k q hk => hP k q (by rw [List.getElem?_append_left (List.getElem?_eq_some_iff.mp hk).1]; exact hk)
  have hPo : s.heap[bo]? = some (vp_cell (V.2.1 1) (1, .inr (.inl o))) := hP 59 _ rfl
  have hbl : bo < s.heap.size := (Array.getElem?_eq_some_iff.mp hPo).1
  have hb9 : ¬ A9 V s.heap.size bo := fun q => q.elim hbo (fun q => by omega)
  have h98 : ∀ q, A9 V s.heap.size q → A8 V bo s.heap.size q := fun q h => h.elim Or.inl (fun h => Or.inr (Or.inr h))
  have hS : va_S (A8 V bo s.heap.size) s.heap s.heap [] := va_S.rf
  refine lv_aload_n (pc := 0) hx hb dL_part_0 rfl (lv_at hl 3 rfl) ?_
  refine lv_iconst (pc := 1) (v := 0) hx hb dL_part_1 (by decide) ?_
  refine lv_aload_n (pc := 2) hx hb dL_part_2 rfl (lv_at hl 0 rfl) ?_
  refine lv_iload_n (pc := 3) hx hb dL_part_3 rfl (lv_at hl 1 rfl) ?_
  refine lv_iload_n (pc := 4) hx hb dL_part_4 rfl (lv_at hl 2 rfl) ?_
  refine vx_calli (pc := 5) (vx_runV (As := [.int x1, .int x2]) (rest := [.int 0, .ref bo]) ⟨hx, hb, hml, hown, hg⟩ (mX10_part (sa := sa) htr hD1 s.heap.size h) (cwV 2 hg (gi_V cw_L_7.1 cw_L_7.2.1 cw_L_7.2.2.1 cw_L_7.2.2.2.1 cw_L_7.2.2.2.2.1) rfl rfl rfl cw_L_7.2.2.2.2.2.1 ⟨by show d + 8 + 1 ≤ d + 9; omega, by show 8 + (3 + 11) + (46 * d + 200) ≤ 46 * d + 300; omega⟩) ⟨fun a U g mk q => ⟨q.1, q.2.1, q.2.2.1, q.2.2.2.1.same rfl, q.2.2.2.2.1.same rfl, q.2.2.2.2.2.1.moved (Vm.Alike.refl _), q.2.2.2.2.2.2.moved (Vm.Alike.refl _)⟩, va_recv hK.1 hPc (ci := 10) (q0 := 0) rfl rfl, fun U hU hW => ⟨rfl, by rw [hU], by rw [hU]; exact hPc, hK.warm hW, hKP.warm hW, by rw [hU]; exact (hZ.1.narrow h98).moved hW.alike, by rw [hU]; exact (hZ.2.narrow h98).moved hW.alike⟩⟩ rfl rfl hl.1 rfl (lv_room (Nat.le_of_ble_eq_true rfl)) dL_part_5 ⟨Nat.le_refl _, Nat.le_refl _⟩) hS (fun q _ h => h98 q h) h98 (fun q _ h => h98 q h) (fun E ce q9 u t H1 locs ht hvm hw hB hz hk hS hcell hv hcl => ?_) (fun r u t H1 locs ht hvm hw hB hz hk hS => ?_)
  · obtain ⟨hz2, rfl⟩ := hw
    obtain ⟨rfl, hP1⟩ := hB
    rw [ht] at hP1
    refine tc_catch (pc := 5) (own := RL) (name := aioN) (E := aioN) hown ⟨0, 10, 13, 13⟩ htab (by decide) (by decide) (hg _ wJ_803) (va_Nw.use rfl hKP.2.2.2.2.1) hcell hv hcl ?_
    refine lv_astore (pc := 13) (lv' := [(4, .ref q9), (0, .ref (V.2.2 0)), (1, .int x1), (2, .int x2), (3, .ref bo)]) hx hb dL_part_13 hl (by decide) rfl (fun ls hl => ?_)
    refine lv_iconst (pc := 15) (v := 1) hx hb dL_part_15 (by decide) ?_
    have hPo1 : va_P V.1 clsAll [ocell V bo o] H1 := fun k q hk9 => by
      have hz9 : k < 1 := (List.getElem?_eq_some_iff.mp hk9).1
      rw [show k = 0 by omega] at hk9
      cases hk9
      show H1[bo]? = some _
      rw [hk bo hbl hb9]
      exact hPo
    exact W.iret hx hb hrt (fun t2 ht2 _ => ⟨⟨1, o, rfl, Or.inr ⟨hz2, rfl, rfl⟩, by show va_P V.1 clsAll _ t2.heap; rw [ht2]; exact hP1.app hPo1⟩, hS.F ht2⟩) hS.2.2 dL_part_16 (hlocks := hlk)
  · obtain ⟨hz2, rfl⟩ := hw
    have hP1 : va_P V.1 clsAll (cC V z.1) H1 := by rw [← ht]; exact hB
    have hPo1 : va_P V.1 clsAll [ocell V bo o] H1 := fun k q hk9 => by
      have hz9 : k < 1 := (List.getElem?_eq_some_iff.mp hk9).1
      rw [show k = 0 by omega] at hk9
      cases hk9
      show H1[bo]? = some _
      rw [hk bo hbl hb9]
      exact hPo
    have hPb := hP1.app hPo1
    have hDb : va_D (A8 V bo s.heap.size) (cC V z.1 ++ [ocell V bo o]) := va_D.app ((hD1 z.1).weaken (fun _ _ _ h => Or.inl h)) ⟨fun i j p q hi hj _ => by
        have h1 : i < 1 := (List.getElem?_eq_some_iff.mp hi).1
        have h2 : j < 1 := (List.getElem?_eq_some_iff.mp hj).1
        omega, fun k q hk9 => by
        have hz9 : k < 1 := (List.getElem?_eq_some_iff.mp hk9).1
        rw [show k = 0 by omega] at hk9
        cases hk9
        exact Or.inr (Or.inl rfl)⟩ (fun i j x y hx9 hy9 hxy => by
        have hz9 : j < 1 := (List.getElem?_eq_some_iff.mp hy9).1
        rw [show j = 0 by omega] at hy9
        cases hy9
        have hq9 := (hD1 z.1).2 i x hx9
        rw [show x.1 = bo from hxy] at hq9
        exact hbo hq9)
    refine lv_i2l (pc := 8) hx hb dL_part_8 rfl ?_
    refine va_last (pc := 9) (a := bo) hx hb hK.1 hPb hDb hS 59 1 rfl rfl (i := 0) (by unfold vp_in; decide) dL_part_9 (fun H locs hP hD hS => ?_)
    refine lv_goto (pc := 10) (tgt := 17) hx hb dL_part_10 (by decide) ?_
    refine lv_iconst (pc := 17) (v := 0) hx hb dL_part_17 (by decide) ?_
    have hP : va_P V.1 clsAll (cC V z.1 ++ [ocell V bo (vp_updL o 0 r.toInt64)]) H := hP
    exact W.iret hx hb hrt (fun t2 ht2 _ => ⟨⟨0, vp_updL o 0 r.toInt64, rfl, Or.inl ⟨r, hz2, rfl, rfl⟩, by show va_P V.1 clsAll _ t2.heap; rw [ht2]; exact hP⟩, hS.F ht2⟩) hS.2.2 dL_part_18 (hlocks := hlk)
