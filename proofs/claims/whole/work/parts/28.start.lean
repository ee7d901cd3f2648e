def wC0 : Wd := (fun k => if k = 18 then 60 else 0, fun k => if k = 13 then (upd (upd (upd (upd (upd (upd (upd (upd (fun _ => (0 : Int32)) 10 1) 11 1) 12 1) 13 1) 14 1) 15 1) 16 1) 17 1) else fun _ => 0, fun _ _ => 0, fun _ => 0)
def wM0 : Wd := (fun _ => 0, fun _ _ => 0, fun _ _ => 0, fun _ => 0)
def adC (h0 : Nat) (a : Nat → Nat) : Nat → Nat := fun k => ([h0, a 0, a 12, a 16, a 23, a 25, a 51, a 55, a 17, a 26, a 36, a 44, a 1, a 2, a 3, a 4, a 5, a 6, a 7, a 8, a 9, a 10, a 11, a 13, a 14, a 15, a 20, a 21, a 22, a 24, a 32, a 33, a 34, a 35, a 52, a 53, a 54, a 56, a 57, a 18, a 19, a 27, a 28, a 29, a 30, a 31, a 37, a 38, a 39, a 40, a 41, a 42, a 43, a 45, a 46, a 47, a 48, a 49, a 50] : List Nat).getD k 0
set_option maxRecDepth 100000 in
theorem finC_perm (V : Ev) (h0 : Nat) (a : Nat → Nat) : [0, 1, 13, 17, 24, 26, 52, 56, 18, 27, 37, 45, 2, 3, 4, 5, 6, 7, 8, 9, 10, 11, 12, 14, 15, 16, 21, 22, 23, 25, 33, 34, 35, 36, 53, 54, 55, 57, 58, 19, 20, 28, 29, 30, 31, 32, 38, 39, 40, 41, 42, 43, 44, 46, 47, 48, 49, 50, 51].filterMap (fun i => (finX10 V h0 a)[i]?) = cC (V.1, V.2.1, adC h0 a) wC0 := rfl
set_option maxRecDepth 100000 in
theorem finC_perm2 (V : Ev) (h0 : Nat) (a : Nat → Nat) : [0, 1, 13, 17, 24, 26, 52, 56, 18, 27, 37, 45, 2, 3, 4, 5, 6, 7, 8, 9, 10, 11, 12, 14, 15, 16, 21, 22, 23, 25, 33, 34, 35, 36, 53, 54, 55, 57, 58, 19, 20, 28, 29, 30, 31, 32, 38, 39, 40, 41, 42, 43, 44, 46, 47, 48, 49, 50, 51].map (fun i => (finX10 V h0 a)[i]?) = (cC (V.1, V.2.1, adC h0 a) wC0).map some := rfl
theorem finC_P {V : Ev} {h0 : Nat} {a : Nat → Nat} {H : Heap} (h : va_P V.1 clsAll (finX10 V h0 a) H) : va_P V.1 clsAll (cC (V.1, V.2.1, adC h0 a) wC0) H := h.sub _ (finC_perm V h0 a)
theorem finC_D {V : Ev} {h0 : Nat} {a : Nat → Nat} {A : Nat → Prop} (h : va_D A (finX10 V h0 a)) : va_D A (cC (V.1, V.2.1, adC h0 a) wC0) := h.sub _ (by decide) (finC_perm2 V h0 a)
def adM (h0 : Nat) (a : Nat → Nat) : Nat → Nat := fun k => ([h0, a 0, a 1, a 2, a 3, a 4, a 5, a 6, a 7, a 8, a 9, a 10, a 11, a 12, a 13, a 14, a 15, a 16, a 17, a 18, a 19, a 20, a 21, a 22, a 23, a 24, a 25, a 26, a 27, a 28, a 29, a 30, a 31, a 32] : List Nat).getD k 0
set_option maxRecDepth 100000 in
theorem finM_perm (V : Ev) (h0 : Nat) (a : Nat → Nat) : [0, 1, 2, 3, 4, 5, 6, 7, 8, 9, 10, 11, 12, 13, 14, 15, 16, 17, 18, 19, 20, 21, 22, 23, 24, 25, 26, 27, 28, 29, 30, 31, 32, 33].filterMap (fun i => (finX11 V h0 a)[i]?) = cM (V.1, V.2.1, adM h0 a) wM0 := rfl
set_option maxRecDepth 100000 in
theorem finM_perm2 (V : Ev) (h0 : Nat) (a : Nat → Nat) : [0, 1, 2, 3, 4, 5, 6, 7, 8, 9, 10, 11, 12, 13, 14, 15, 16, 17, 18, 19, 20, 21, 22, 23, 24, 25, 26, 27, 28, 29, 30, 31, 32, 33].map (fun i => (finX11 V h0 a)[i]?) = (cM (V.1, V.2.1, adM h0 a) wM0).map some := rfl
theorem finM_P {V : Ev} {h0 : Nat} {a : Nat → Nat} {H : Heap} (h : va_P V.1 clsAll (finX11 V h0 a) H) : va_P V.1 clsAll (cM (V.1, V.2.1, adM h0 a) wM0) H := h.sub _ (finM_perm V h0 a)
theorem finM_D {V : Ev} {h0 : Nat} {a : Nat → Nat} {A : Nat → Prop} (h : va_D A (finX11 V h0 a)) : va_D A (cM (V.1, V.2.1, adM h0 a) wM0) := h.sub _ (by decide) (finM_perm2 V h0 a)
