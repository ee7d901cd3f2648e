def cC (V : Ev) (w : Wd) : va_W := [(V.2.2 0, .inr (10, [.ref (V.2.2 1), .ref (V.2.2 2), .ref (V.2.2 3), .ref (V.2.2 4), .ref (V.2.2 5), .ref (V.2.2 6), .ref (V.2.2 7)])),
  (V.2.2 1, .inr (8, [.int (sI w 0), .int (sI w 1), .ref (V.2.2 12), .ref (V.2.2 13), .ref (V.2.2 14), .ref (V.2.2 15), .ref (V.2.2 16), .ref (V.2.2 17), .ref (V.2.2 18), .ref (V.2.2 19), .ref (V.2.2 20), .ref (V.2.2 21), .ref (V.2.2 22)])),
  (V.2.2 2, .inr (4, [.int (sI w 2), .ref (V.2.2 23), .ref (V.2.2 24), .ref (V.2.2 25)])),
  (V.2.2 3, .inr (3, [.ref (V.2.2 1), .ref (V.2.2 2), .ref (V.2.2 8), .ref (V.2.2 26), .ref (V.2.2 27), .int (sI w 3), .int (sI w 4), .int (sI w 5), .ref (V.2.2 28)])),
  (V.2.2 4, .inr (0, [.ref (V.2.2 1), .ref (V.2.2 29)])),
  (V.2.2 5, .inr (1, [.ref (V.2.2 1), .ref (V.2.2 2), .ref (V.2.2 10), .ref (V.2.2 11), .ref (V.2.2 9), .int (sI w 6), .int (sI w 7), .int (sI w 8), .int (sI w 9), .ref (V.2.2 30), .ref (V.2.2 31), .ref (V.2.2 32), .ref (V.2.2 33)])),
  (V.2.2 6, .inr (7, [.ref (V.2.2 1), .int (sI w 10), .ref (V.2.2 34), .ref (V.2.2 35), .ref (V.2.2 36), .int (sI w 11)])),
  (V.2.2 7, .inr (6, [.int (sI w 13), .ref (V.2.2 37), .ref (V.2.2 38)])),
  (V.2.2 8, .inr (6, [.int (sI w 14), .ref (V.2.2 39), .ref (V.2.2 40)])),
  (V.2.2 9, .inr (2, [.int (sI w 15), .int (sI w 16), .int (sI w 17), .int (sI w 18), .ref (V.2.2 41), .ref (V.2.2 42), .ref (V.2.2 43), .ref (V.2.2 44), .ref (V.2.2 45)])),
  (V.2.2 10, .inr (5, [.ref (V.2.2 1), .int (sI w 19), .ref (V.2.2 46), .ref (V.2.2 47), .ref (V.2.2 48), .ref (V.2.2 49), .ref (V.2.2 50), .ref (V.2.2 51), .ref (V.2.2 52)])),
  (V.2.2 11, .inr (9, [.ref (V.2.2 10), .ref (V.2.2 53), .ref (V.2.2 54), .ref (V.2.2 55), .ref (V.2.2 56), .ref (V.2.2 57), .int (sI w 20), .ref (V.2.2 58)])),
  (V.2.2 12, .inl (V.2.1 0, 18, .inl (aI w 12))),
  (V.2.2 13, .inl (V.2.1 0, 18, .inl (aI w 13))),
  (V.2.2 14, .inl (V.2.1 0, 1000, .inl (aI w 14))),
  (V.2.2 15, .inl (V.2.1 0, 1000, .inl (aI w 15))),
  (V.2.2 16, .inl (V.2.1 0, 1000, .inl (aI w 16))),
  (V.2.2 17, .inl (V.2.1 1, 1000, .inr (.inl (aL w 17)))),
  (V.2.2 18, .inl (V.2.1 1, 1000, .inr (.inl (aL w 18)))),
  (V.2.2 19, .inl (V.2.1 0, 1000, .inl (aI w 19))),
  (V.2.2 20, .inl (V.2.1 0, 256, .inl (aI w 20))),
  (V.2.2 21, .inl (V.2.1 0, 1000, .inl (aI w 21))),
  (V.2.2 22, .inl (V.2.1 1, 1000, .inr (.inl (aL w 22)))),
  (V.2.2 23, .inl (V.2.1 0, 16, .inl (aI w 23))),
  (V.2.2 24, .inl (V.2.1 0, 16, .inl (aI w 24))),
  (V.2.2 25, .inl (V.2.1 2, 16, .inl (aI w 25))),
  (V.2.2 26, .inl (V.2.1 0, 1000, .inl (aI w 26))),
  (V.2.2 27, .inl (V.2.1 0, 1000, .inl (aI w 27))),
  (V.2.2 28, .inl (V.2.1 0, 4, .inl (aI w 29))),
  (V.2.2 29, .inl (V.2.1 0, 8, .inl (aI w 30))),
  (V.2.2 30, .inl (V.2.1 0, 8, .inl (aI w 31))),
  (V.2.2 31, .inl (V.2.1 2, 158, .inl (aI w 32))),
  (V.2.2 32, .inl (V.2.1 0, 158, .inl (aI w 33))),
  (V.2.2 33, .inl (V.2.1 0, 158, .inl (aI w 34))),
  (V.2.2 34, .inl (V.2.1 0, 160, .inl (aI w 35))),
  (V.2.2 35, .inl (V.2.1 0, 8, .inl (aI w 36))),
  (V.2.2 36, .inl (V.2.1 0, 8, .inl (aI w 37))),
  (V.2.2 37, .inl (V.2.1 0, 100, .inl (aI w 41))),
  (V.2.2 38, .inl (V.2.1 1, 100, .inr (.inl (aL w 42)))),
  (V.2.2 39, .inl (V.2.1 0, 100, .inl (aI w 43))),
  (V.2.2 40, .inl (V.2.1 1, 100, .inr (.inl (aL w 44)))),
  (V.2.2 41, .inl (V.2.1 0, 120, .inl (aI w 45))),
  (V.2.2 42, .inl (V.2.1 0, 120, .inl (aI w 46))),
  (V.2.2 43, .inl (V.2.1 1, 120, .inr (.inl (aL w 47)))),
  (V.2.2 44, .inl (V.2.1 0, 120, .inl (aI w 48))),
  (V.2.2 45, .inl (V.2.1 0, 120, .inl (aI w 49))),
  (V.2.2 46, .inl (V.2.1 0, 158, .inl (aI w 50))),
  (V.2.2 47, .inl (V.2.1 0, 158, .inl (aI w 51))),
  (V.2.2 48, .inl (V.2.1 0, 158, .inl (aI w 52))),
  (V.2.2 49, .inl (V.2.1 0, 158, .inl (aI w 53))),
  (V.2.2 50, .inl (V.2.1 0, 158, .inl (aI w 54))),
  (V.2.2 51, .inl (V.2.1 1, 158, .inr (.inl (aL w 55)))),
  (V.2.2 52, .inl (V.2.1 0, 158, .inl (aI w 56))),
  (V.2.2 53, .inl (V.2.1 0, 158, .inl (aI w 57))),
  (V.2.2 54, .inl (V.2.1 0, 158, .inl (aI w 58))),
  (V.2.2 55, .inl (V.2.1 0, 158, .inl (aI w 59))),
  (V.2.2 56, .inl (V.2.1 0, 158, .inl (aI w 60))),
  (V.2.2 57, .inl (V.2.1 0, 158, .inl (aI w 61))),
  (V.2.2 58, .inl (V.2.1 0, 8, .inl (aI w 62)))]
def AC (V : Ev) (q : Nat) : Prop := ∃ k : Nat, k < 59 ∧ q = V.2.2 k
theorem heC_0 (V : Ev) (w : Wd) : (cC V w)[0]? = some (V.2.2 0, .inr (10, [.ref (V.2.2 1), .ref (V.2.2 2), .ref (V.2.2 3), .ref (V.2.2 4), .ref (V.2.2 5), .ref (V.2.2 6), .ref (V.2.2 7)])) := rfl
theorem heC_1 (V : Ev) (w : Wd) : (cC V w)[1]? = some (V.2.2 1, .inr (8, [.int (sI w 0), .int (sI w 1), .ref (V.2.2 12), .ref (V.2.2 13), .ref (V.2.2 14), .ref (V.2.2 15), .ref (V.2.2 16), .ref (V.2.2 17), .ref (V.2.2 18), .ref (V.2.2 19), .ref (V.2.2 20), .ref (V.2.2 21), .ref (V.2.2 22)])) := rfl
theorem heC_2 (V : Ev) (w : Wd) : (cC V w)[2]? = some (V.2.2 2, .inr (4, [.int (sI w 2), .ref (V.2.2 23), .ref (V.2.2 24), .ref (V.2.2 25)])) := rfl
theorem heC_3 (V : Ev) (w : Wd) : (cC V w)[3]? = some (V.2.2 3, .inr (3, [.ref (V.2.2 1), .ref (V.2.2 2), .ref (V.2.2 8), .ref (V.2.2 26), .ref (V.2.2 27), .int (sI w 3), .int (sI w 4), .int (sI w 5), .ref (V.2.2 28)])) := rfl
theorem heC_4 (V : Ev) (w : Wd) : (cC V w)[4]? = some (V.2.2 4, .inr (0, [.ref (V.2.2 1), .ref (V.2.2 29)])) := rfl
theorem heC_5 (V : Ev) (w : Wd) : (cC V w)[5]? = some (V.2.2 5, .inr (1, [.ref (V.2.2 1), .ref (V.2.2 2), .ref (V.2.2 10), .ref (V.2.2 11), .ref (V.2.2 9), .int (sI w 6), .int (sI w 7), .int (sI w 8), .int (sI w 9), .ref (V.2.2 30), .ref (V.2.2 31), .ref (V.2.2 32), .ref (V.2.2 33)])) := rfl
theorem heC_6 (V : Ev) (w : Wd) : (cC V w)[6]? = some (V.2.2 6, .inr (7, [.ref (V.2.2 1), .int (sI w 10), .ref (V.2.2 34), .ref (V.2.2 35), .ref (V.2.2 36), .int (sI w 11)])) := rfl
theorem heC_7 (V : Ev) (w : Wd) : (cC V w)[7]? = some (V.2.2 7, .inr (6, [.int (sI w 13), .ref (V.2.2 37), .ref (V.2.2 38)])) := rfl
theorem heC_8 (V : Ev) (w : Wd) : (cC V w)[8]? = some (V.2.2 8, .inr (6, [.int (sI w 14), .ref (V.2.2 39), .ref (V.2.2 40)])) := rfl
theorem heC_9 (V : Ev) (w : Wd) : (cC V w)[9]? = some (V.2.2 9, .inr (2, [.int (sI w 15), .int (sI w 16), .int (sI w 17), .int (sI w 18), .ref (V.2.2 41), .ref (V.2.2 42), .ref (V.2.2 43), .ref (V.2.2 44), .ref (V.2.2 45)])) := rfl
theorem heC_10 (V : Ev) (w : Wd) : (cC V w)[10]? = some (V.2.2 10, .inr (5, [.ref (V.2.2 1), .int (sI w 19), .ref (V.2.2 46), .ref (V.2.2 47), .ref (V.2.2 48), .ref (V.2.2 49), .ref (V.2.2 50), .ref (V.2.2 51), .ref (V.2.2 52)])) := rfl
theorem heC_11 (V : Ev) (w : Wd) : (cC V w)[11]? = some (V.2.2 11, .inr (9, [.ref (V.2.2 10), .ref (V.2.2 53), .ref (V.2.2 54), .ref (V.2.2 55), .ref (V.2.2 56), .ref (V.2.2 57), .int (sI w 20), .ref (V.2.2 58)])) := rfl
theorem heC_12 (V : Ev) (w : Wd) : (cC V w)[12]? = some (V.2.2 12, .inl (V.2.1 0, 18, .inl (aI w 12))) := rfl
theorem hsC_12 (V : Ev) (w : Wd) (f : Nat → Int32) : (cC V w).set 12 (V.2.2 12, .inl (V.2.1 0, 18, .inl f)) = cC V (pA w 12 f) := rfl
theorem heC_13 (V : Ev) (w : Wd) : (cC V w)[13]? = some (V.2.2 13, .inl (V.2.1 0, 18, .inl (aI w 13))) := rfl
theorem hsC_13 (V : Ev) (w : Wd) (f : Nat → Int32) : (cC V w).set 13 (V.2.2 13, .inl (V.2.1 0, 18, .inl f)) = cC V (pA w 13 f) := rfl
theorem heC_14 (V : Ev) (w : Wd) : (cC V w)[14]? = some (V.2.2 14, .inl (V.2.1 0, 1000, .inl (aI w 14))) := rfl
theorem hsC_14 (V : Ev) (w : Wd) (f : Nat → Int32) : (cC V w).set 14 (V.2.2 14, .inl (V.2.1 0, 1000, .inl f)) = cC V (pA w 14 f) := rfl
theorem heC_15 (V : Ev) (w : Wd) : (cC V w)[15]? = some (V.2.2 15, .inl (V.2.1 0, 1000, .inl (aI w 15))) := rfl
theorem hsC_15 (V : Ev) (w : Wd) (f : Nat → Int32) : (cC V w).set 15 (V.2.2 15, .inl (V.2.1 0, 1000, .inl f)) = cC V (pA w 15 f) := rfl
theorem heC_16 (V : Ev) (w : Wd) : (cC V w)[16]? = some (V.2.2 16, .inl (V.2.1 0, 1000, .inl (aI w 16))) := rfl
theorem hsC_16 (V : Ev) (w : Wd) (f : Nat → Int32) : (cC V w).set 16 (V.2.2 16, .inl (V.2.1 0, 1000, .inl f)) = cC V (pA w 16 f) := rfl
theorem heC_17 (V : Ev) (w : Wd) : (cC V w)[17]? = some (V.2.2 17, .inl (V.2.1 1, 1000, .inr (.inl (aL w 17)))) := rfl
theorem hsC_17 (V : Ev) (w : Wd) (f : Nat → Int64) : (cC V w).set 17 (V.2.2 17, .inl (V.2.1 1, 1000, .inr (.inl f))) = cC V (pB w 17 f) := rfl
theorem heC_18 (V : Ev) (w : Wd) : (cC V w)[18]? = some (V.2.2 18, .inl (V.2.1 1, 1000, .inr (.inl (aL w 18)))) := rfl
theorem hsC_18 (V : Ev) (w : Wd) (f : Nat → Int64) : (cC V w).set 18 (V.2.2 18, .inl (V.2.1 1, 1000, .inr (.inl f))) = cC V (pB w 18 f) := rfl
theorem heC_19 (V : Ev) (w : Wd) : (cC V w)[19]? = some (V.2.2 19, .inl (V.2.1 0, 1000, .inl (aI w 19))) := rfl
theorem hsC_19 (V : Ev) (w : Wd) (f : Nat → Int32) : (cC V w).set 19 (V.2.2 19, .inl (V.2.1 0, 1000, .inl f)) = cC V (pA w 19 f) := rfl
theorem heC_20 (V : Ev) (w : Wd) : (cC V w)[20]? = some (V.2.2 20, .inl (V.2.1 0, 256, .inl (aI w 20))) := rfl
theorem hsC_20 (V : Ev) (w : Wd) (f : Nat → Int32) : (cC V w).set 20 (V.2.2 20, .inl (V.2.1 0, 256, .inl f)) = cC V (pA w 20 f) := rfl
theorem heC_21 (V : Ev) (w : Wd) : (cC V w)[21]? = some (V.2.2 21, .inl (V.2.1 0, 1000, .inl (aI w 21))) := rfl
theorem hsC_21 (V : Ev) (w : Wd) (f : Nat → Int32) : (cC V w).set 21 (V.2.2 21, .inl (V.2.1 0, 1000, .inl f)) = cC V (pA w 21 f) := rfl
theorem heC_22 (V : Ev) (w : Wd) : (cC V w)[22]? = some (V.2.2 22, .inl (V.2.1 1, 1000, .inr (.inl (aL w 22)))) := rfl
theorem hsC_22 (V : Ev) (w : Wd) (f : Nat → Int64) : (cC V w).set 22 (V.2.2 22, .inl (V.2.1 1, 1000, .inr (.inl f))) = cC V (pB w 22 f) := rfl
theorem heC_23 (V : Ev) (w : Wd) : (cC V w)[23]? = some (V.2.2 23, .inl (V.2.1 0, 16, .inl (aI w 23))) := rfl
theorem hsC_23 (V : Ev) (w : Wd) (f : Nat → Int32) : (cC V w).set 23 (V.2.2 23, .inl (V.2.1 0, 16, .inl f)) = cC V (pA w 23 f) := rfl
theorem heC_24 (V : Ev) (w : Wd) : (cC V w)[24]? = some (V.2.2 24, .inl (V.2.1 0, 16, .inl (aI w 24))) := rfl
theorem hsC_24 (V : Ev) (w : Wd) (f : Nat → Int32) : (cC V w).set 24 (V.2.2 24, .inl (V.2.1 0, 16, .inl f)) = cC V (pA w 24 f) := rfl
theorem heC_25 (V : Ev) (w : Wd) : (cC V w)[25]? = some (V.2.2 25, .inl (V.2.1 2, 16, .inl (aI w 25))) := rfl
theorem hsC_25 (V : Ev) (w : Wd) (f : Nat → Int32) : (cC V w).set 25 (V.2.2 25, .inl (V.2.1 2, 16, .inl f)) = cC V (pA w 25 f) := rfl
theorem heC_26 (V : Ev) (w : Wd) : (cC V w)[26]? = some (V.2.2 26, .inl (V.2.1 0, 1000, .inl (aI w 26))) := rfl
theorem hsC_26 (V : Ev) (w : Wd) (f : Nat → Int32) : (cC V w).set 26 (V.2.2 26, .inl (V.2.1 0, 1000, .inl f)) = cC V (pA w 26 f) := rfl
theorem heC_27 (V : Ev) (w : Wd) : (cC V w)[27]? = some (V.2.2 27, .inl (V.2.1 0, 1000, .inl (aI w 27))) := rfl
theorem hsC_27 (V : Ev) (w : Wd) (f : Nat → Int32) : (cC V w).set 27 (V.2.2 27, .inl (V.2.1 0, 1000, .inl f)) = cC V (pA w 27 f) := rfl
theorem heC_28 (V : Ev) (w : Wd) : (cC V w)[28]? = some (V.2.2 28, .inl (V.2.1 0, 4, .inl (aI w 29))) := rfl
theorem hsC_28 (V : Ev) (w : Wd) (f : Nat → Int32) : (cC V w).set 28 (V.2.2 28, .inl (V.2.1 0, 4, .inl f)) = cC V (pA w 29 f) := rfl
theorem heC_29 (V : Ev) (w : Wd) : (cC V w)[29]? = some (V.2.2 29, .inl (V.2.1 0, 8, .inl (aI w 30))) := rfl
theorem hsC_29 (V : Ev) (w : Wd) (f : Nat → Int32) : (cC V w).set 29 (V.2.2 29, .inl (V.2.1 0, 8, .inl f)) = cC V (pA w 30 f) := rfl
theorem heC_30 (V : Ev) (w : Wd) : (cC V w)[30]? = some (V.2.2 30, .inl (V.2.1 0, 8, .inl (aI w 31))) := rfl
theorem hsC_30 (V : Ev) (w : Wd) (f : Nat → Int32) : (cC V w).set 30 (V.2.2 30, .inl (V.2.1 0, 8, .inl f)) = cC V (pA w 31 f) := rfl
theorem heC_31 (V : Ev) (w : Wd) : (cC V w)[31]? = some (V.2.2 31, .inl (V.2.1 2, 158, .inl (aI w 32))) := rfl
theorem hsC_31 (V : Ev) (w : Wd) (f : Nat → Int32) : (cC V w).set 31 (V.2.2 31, .inl (V.2.1 2, 158, .inl f)) = cC V (pA w 32 f) := rfl
theorem heC_32 (V : Ev) (w : Wd) : (cC V w)[32]? = some (V.2.2 32, .inl (V.2.1 0, 158, .inl (aI w 33))) := rfl
theorem hsC_32 (V : Ev) (w : Wd) (f : Nat → Int32) : (cC V w).set 32 (V.2.2 32, .inl (V.2.1 0, 158, .inl f)) = cC V (pA w 33 f) := rfl
theorem heC_33 (V : Ev) (w : Wd) : (cC V w)[33]? = some (V.2.2 33, .inl (V.2.1 0, 158, .inl (aI w 34))) := rfl
theorem hsC_33 (V : Ev) (w : Wd) (f : Nat → Int32) : (cC V w).set 33 (V.2.2 33, .inl (V.2.1 0, 158, .inl f)) = cC V (pA w 34 f) := rfl
theorem heC_34 (V : Ev) (w : Wd) : (cC V w)[34]? = some (V.2.2 34, .inl (V.2.1 0, 160, .inl (aI w 35))) := rfl
theorem hsC_34 (V : Ev) (w : Wd) (f : Nat → Int32) : (cC V w).set 34 (V.2.2 34, .inl (V.2.1 0, 160, .inl f)) = cC V (pA w 35 f) := rfl
theorem heC_35 (V : Ev) (w : Wd) : (cC V w)[35]? = some (V.2.2 35, .inl (V.2.1 0, 8, .inl (aI w 36))) := rfl
theorem hsC_35 (V : Ev) (w : Wd) (f : Nat → Int32) : (cC V w).set 35 (V.2.2 35, .inl (V.2.1 0, 8, .inl f)) = cC V (pA w 36 f) := rfl
theorem heC_36 (V : Ev) (w : Wd) : (cC V w)[36]? = some (V.2.2 36, .inl (V.2.1 0, 8, .inl (aI w 37))) := rfl
theorem hsC_36 (V : Ev) (w : Wd) (f : Nat → Int32) : (cC V w).set 36 (V.2.2 36, .inl (V.2.1 0, 8, .inl f)) = cC V (pA w 37 f) := rfl
theorem heC_37 (V : Ev) (w : Wd) : (cC V w)[37]? = some (V.2.2 37, .inl (V.2.1 0, 100, .inl (aI w 41))) := rfl
theorem hsC_37 (V : Ev) (w : Wd) (f : Nat → Int32) : (cC V w).set 37 (V.2.2 37, .inl (V.2.1 0, 100, .inl f)) = cC V (pA w 41 f) := rfl
theorem heC_38 (V : Ev) (w : Wd) : (cC V w)[38]? = some (V.2.2 38, .inl (V.2.1 1, 100, .inr (.inl (aL w 42)))) := rfl
theorem hsC_38 (V : Ev) (w : Wd) (f : Nat → Int64) : (cC V w).set 38 (V.2.2 38, .inl (V.2.1 1, 100, .inr (.inl f))) = cC V (pB w 42 f) := rfl
theorem heC_39 (V : Ev) (w : Wd) : (cC V w)[39]? = some (V.2.2 39, .inl (V.2.1 0, 100, .inl (aI w 43))) := rfl
theorem hsC_39 (V : Ev) (w : Wd) (f : Nat → Int32) : (cC V w).set 39 (V.2.2 39, .inl (V.2.1 0, 100, .inl f)) = cC V (pA w 43 f) := rfl
theorem heC_40 (V : Ev) (w : Wd) : (cC V w)[40]? = some (V.2.2 40, .inl (V.2.1 1, 100, .inr (.inl (aL w 44)))) := rfl
theorem hsC_40 (V : Ev) (w : Wd) (f : Nat → Int64) : (cC V w).set 40 (V.2.2 40, .inl (V.2.1 1, 100, .inr (.inl f))) = cC V (pB w 44 f) := rfl
theorem heC_41 (V : Ev) (w : Wd) : (cC V w)[41]? = some (V.2.2 41, .inl (V.2.1 0, 120, .inl (aI w 45))) := rfl
theorem hsC_41 (V : Ev) (w : Wd) (f : Nat → Int32) : (cC V w).set 41 (V.2.2 41, .inl (V.2.1 0, 120, .inl f)) = cC V (pA w 45 f) := rfl
theorem heC_42 (V : Ev) (w : Wd) : (cC V w)[42]? = some (V.2.2 42, .inl (V.2.1 0, 120, .inl (aI w 46))) := rfl
theorem hsC_42 (V : Ev) (w : Wd) (f : Nat → Int32) : (cC V w).set 42 (V.2.2 42, .inl (V.2.1 0, 120, .inl f)) = cC V (pA w 46 f) := rfl
theorem heC_43 (V : Ev) (w : Wd) : (cC V w)[43]? = some (V.2.2 43, .inl (V.2.1 1, 120, .inr (.inl (aL w 47)))) := rfl
theorem hsC_43 (V : Ev) (w : Wd) (f : Nat → Int64) : (cC V w).set 43 (V.2.2 43, .inl (V.2.1 1, 120, .inr (.inl f))) = cC V (pB w 47 f) := rfl
theorem heC_44 (V : Ev) (w : Wd) : (cC V w)[44]? = some (V.2.2 44, .inl (V.2.1 0, 120, .inl (aI w 48))) := rfl
theorem hsC_44 (V : Ev) (w : Wd) (f : Nat → Int32) : (cC V w).set 44 (V.2.2 44, .inl (V.2.1 0, 120, .inl f)) = cC V (pA w 48 f) := rfl
theorem heC_45 (V : Ev) (w : Wd) : (cC V w)[45]? = some (V.2.2 45, .inl (V.2.1 0, 120, .inl (aI w 49))) := rfl
theorem hsC_45 (V : Ev) (w : Wd) (f : Nat → Int32) : (cC V w).set 45 (V.2.2 45, .inl (V.2.1 0, 120, .inl f)) = cC V (pA w 49 f) := rfl
theorem heC_46 (V : Ev) (w : Wd) : (cC V w)[46]? = some (V.2.2 46, .inl (V.2.1 0, 158, .inl (aI w 50))) := rfl
theorem hsC_46 (V : Ev) (w : Wd) (f : Nat → Int32) : (cC V w).set 46 (V.2.2 46, .inl (V.2.1 0, 158, .inl f)) = cC V (pA w 50 f) := rfl
theorem heC_47 (V : Ev) (w : Wd) : (cC V w)[47]? = some (V.2.2 47, .inl (V.2.1 0, 158, .inl (aI w 51))) := rfl
theorem hsC_47 (V : Ev) (w : Wd) (f : Nat → Int32) : (cC V w).set 47 (V.2.2 47, .inl (V.2.1 0, 158, .inl f)) = cC V (pA w 51 f) := rfl
theorem heC_48 (V : Ev) (w : Wd) : (cC V w)[48]? = some (V.2.2 48, .inl (V.2.1 0, 158, .inl (aI w 52))) := rfl
theorem hsC_48 (V : Ev) (w : Wd) (f : Nat → Int32) : (cC V w).set 48 (V.2.2 48, .inl (V.2.1 0, 158, .inl f)) = cC V (pA w 52 f) := rfl
theorem heC_49 (V : Ev) (w : Wd) : (cC V w)[49]? = some (V.2.2 49, .inl (V.2.1 0, 158, .inl (aI w 53))) := rfl
theorem hsC_49 (V : Ev) (w : Wd) (f : Nat → Int32) : (cC V w).set 49 (V.2.2 49, .inl (V.2.1 0, 158, .inl f)) = cC V (pA w 53 f) := rfl
theorem heC_50 (V : Ev) (w : Wd) : (cC V w)[50]? = some (V.2.2 50, .inl (V.2.1 0, 158, .inl (aI w 54))) := rfl
theorem hsC_50 (V : Ev) (w : Wd) (f : Nat → Int32) : (cC V w).set 50 (V.2.2 50, .inl (V.2.1 0, 158, .inl f)) = cC V (pA w 54 f) := rfl
theorem heC_51 (V : Ev) (w : Wd) : (cC V w)[51]? = some (V.2.2 51, .inl (V.2.1 1, 158, .inr (.inl (aL w 55)))) := rfl
theorem hsC_51 (V : Ev) (w : Wd) (f : Nat → Int64) : (cC V w).set 51 (V.2.2 51, .inl (V.2.1 1, 158, .inr (.inl f))) = cC V (pB w 55 f) := rfl
theorem heC_52 (V : Ev) (w : Wd) : (cC V w)[52]? = some (V.2.2 52, .inl (V.2.1 0, 158, .inl (aI w 56))) := rfl
theorem hsC_52 (V : Ev) (w : Wd) (f : Nat → Int32) : (cC V w).set 52 (V.2.2 52, .inl (V.2.1 0, 158, .inl f)) = cC V (pA w 56 f) := rfl
theorem heC_53 (V : Ev) (w : Wd) : (cC V w)[53]? = some (V.2.2 53, .inl (V.2.1 0, 158, .inl (aI w 57))) := rfl
theorem hsC_53 (V : Ev) (w : Wd) (f : Nat → Int32) : (cC V w).set 53 (V.2.2 53, .inl (V.2.1 0, 158, .inl f)) = cC V (pA w 57 f) := rfl
theorem heC_54 (V : Ev) (w : Wd) : (cC V w)[54]? = some (V.2.2 54, .inl (V.2.1 0, 158, .inl (aI w 58))) := rfl
theorem hsC_54 (V : Ev) (w : Wd) (f : Nat → Int32) : (cC V w).set 54 (V.2.2 54, .inl (V.2.1 0, 158, .inl f)) = cC V (pA w 58 f) := rfl
theorem heC_55 (V : Ev) (w : Wd) : (cC V w)[55]? = some (V.2.2 55, .inl (V.2.1 0, 158, .inl (aI w 59))) := rfl
theorem hsC_55 (V : Ev) (w : Wd) (f : Nat → Int32) : (cC V w).set 55 (V.2.2 55, .inl (V.2.1 0, 158, .inl f)) = cC V (pA w 59 f) := rfl
theorem heC_56 (V : Ev) (w : Wd) : (cC V w)[56]? = some (V.2.2 56, .inl (V.2.1 0, 158, .inl (aI w 60))) := rfl
theorem hsC_56 (V : Ev) (w : Wd) (f : Nat → Int32) : (cC V w).set 56 (V.2.2 56, .inl (V.2.1 0, 158, .inl f)) = cC V (pA w 60 f) := rfl
theorem heC_57 (V : Ev) (w : Wd) : (cC V w)[57]? = some (V.2.2 57, .inl (V.2.1 0, 158, .inl (aI w 61))) := rfl
theorem hsC_57 (V : Ev) (w : Wd) (f : Nat → Int32) : (cC V w).set 57 (V.2.2 57, .inl (V.2.1 0, 158, .inl f)) = cC V (pA w 61 f) := rfl
theorem heC_58 (V : Ev) (w : Wd) : (cC V w)[58]? = some (V.2.2 58, .inl (V.2.1 0, 8, .inl (aI w 62))) := rfl
theorem hsC_58 (V : Ev) (w : Wd) (f : Nat → Int32) : (cC V w).set 58 (V.2.2 58, .inl (V.2.1 0, 8, .inl f)) = cC V (pA w 62 f) := rfl
def cM (V : Ev) (w : Wd) : va_W := [(V.2.2 0, .inr (11, [.int (sI w 0), .int (sI w 1), .ref (V.2.2 1), .ref (V.2.2 2), .int (sI w 2), .ref (V.2.2 3), .ref (V.2.2 4), .ref (V.2.2 5), .ref (V.2.2 6), .ref (V.2.2 7), .ref (V.2.2 8), .int (sI w 3), .ref (V.2.2 9), .ref (V.2.2 10), .ref (V.2.2 11), .int (sI w 4), .ref (V.2.2 12), .ref (V.2.2 13), .ref (V.2.2 14), .int (sI w 5), .int (sI w 6), .int (sI w 7), .long (sL w 0), .int (sI w 8), .ref (V.2.2 15), .ref (V.2.2 16), .int (sI w 9), .ref (V.2.2 17), .ref (V.2.2 18), .ref (V.2.2 19), .ref (V.2.2 20), .int (sI w 10), .int (sI w 11), .ref (V.2.2 21), .int (sI w 12), .int (sI w 13), .ref (V.2.2 22), .ref (V.2.2 23), .ref (V.2.2 24), .ref (V.2.2 25), .ref (V.2.2 26), .int (sI w 14), .ref (V.2.2 27), .ref (V.2.2 28), .int (sI w 15), .ref (V.2.2 29), .ref (V.2.2 30), .ref (V.2.2 31), .ref (V.2.2 32), .int (sI w 16), .ref (V.2.2 33)])),
  (V.2.2 1, .inl (V.2.1 0, 10, .inl (aI w 1))),
  (V.2.2 2, .inl (V.2.1 0, 10, .inl (aI w 2))),
  (V.2.2 3, .inl (V.2.1 0, 1000, .inl (aI w 3))),
  (V.2.2 4, .inl (V.2.1 0, 1000, .inl (aI w 4))),
  (V.2.2 5, .inl (V.2.1 0, 1000, .inl (aI w 5))),
  (V.2.2 6, .inl (V.2.1 1, 1000, .inr (.inl (aL w 6)))),
  (V.2.2 7, .inl (V.2.1 1, 1000, .inr (.inl (aL w 7)))),
  (V.2.2 8, .inl (V.2.1 1, 8000, .inr (.inl (aL w 8)))),
  (V.2.2 9, .inl (V.2.1 0, 16, .inl (aI w 9))),
  (V.2.2 10, .inl (V.2.1 0, 16, .inl (aI w 10))),
  (V.2.2 11, .inl (V.2.1 2, 16, .inl (aI w 11))),
  (V.2.2 12, .inl (V.2.1 0, 8, .inl (aI w 12))),
  (V.2.2 13, .inl (V.2.1 0, 1000, .inl (aI w 13))),
  (V.2.2 14, .inl (V.2.1 0, 1000, .inl (aI w 14))),
  (V.2.2 15, .inl (V.2.1 0, 100, .inl (aI w 15))),
  (V.2.2 16, .inl (V.2.1 1, 100, .inr (.inl (aL w 16)))),
  (V.2.2 17, .inl (V.2.1 0, 100, .inl (aI w 17))),
  (V.2.2 18, .inl (V.2.1 1, 100, .inr (.inl (aL w 18)))),
  (V.2.2 19, .inl (V.2.1 0, 8, .inl (aI w 19))),
  (V.2.2 20, .inl (V.2.1 0, 8, .inl (aI w 20))),
  (V.2.2 21, .inl (V.2.1 0, 8, .inl (aI w 21))),
  (V.2.2 22, .inl (V.2.1 0, 60, .inl (aI w 22))),
  (V.2.2 23, .inl (V.2.1 0, 60, .inl (aI w 23))),
  (V.2.2 24, .inl (V.2.1 1, 60, .inr (.inl (aL w 24)))),
  (V.2.2 25, .inl (V.2.1 0, 60, .inl (aI w 25))),
  (V.2.2 26, .inl (V.2.1 0, 60, .inl (aI w 26))),
  (V.2.2 27, .inl (V.2.1 0, 240, .inl (aI w 27))),
  (V.2.2 28, .inl (V.2.1 1, 60, .inr (.inl (aL w 28)))),
  (V.2.2 29, .inl (V.2.1 0, 160, .inl (aI w 29))),
  (V.2.2 30, .inl (V.2.1 0, 8, .inl (aI w 30))),
  (V.2.2 31, .inl (V.2.1 0, 1000, .inl (aI w 31))),
  (V.2.2 32, .inl (V.2.1 0, 8, .inl (aI w 32))),
  (V.2.2 33, .inl (V.2.1 0, 4, .inl (aI w 33)))]
def AM (V : Ev) (q : Nat) : Prop := ∃ k : Nat, k < 34 ∧ q = V.2.2 k
theorem heM_0 (V : Ev) (w : Wd) : (cM V w)[0]? = some (V.2.2 0, .inr (11, [.int (sI w 0), .int (sI w 1), .ref (V.2.2 1), .ref (V.2.2 2), .int (sI w 2), .ref (V.2.2 3), .ref (V.2.2 4), .ref (V.2.2 5), .ref (V.2.2 6), .ref (V.2.2 7), .ref (V.2.2 8), .int (sI w 3), .ref (V.2.2 9), .ref (V.2.2 10), .ref (V.2.2 11), .int (sI w 4), .ref (V.2.2 12), .ref (V.2.2 13), .ref (V.2.2 14), .int (sI w 5), .int (sI w 6), .int (sI w 7), .long (sL w 0), .int (sI w 8), .ref (V.2.2 15), .ref (V.2.2 16), .int (sI w 9), .ref (V.2.2 17), .ref (V.2.2 18), .ref (V.2.2 19), .ref (V.2.2 20), .int (sI w 10), .int (sI w 11), .ref (V.2.2 21), .int (sI w 12), .int (sI w 13), .ref (V.2.2 22), .ref (V.2.2 23), .ref (V.2.2 24), .ref (V.2.2 25), .ref (V.2.2 26), .int (sI w 14), .ref (V.2.2 27), .ref (V.2.2 28), .int (sI w 15), .ref (V.2.2 29), .ref (V.2.2 30), .ref (V.2.2 31), .ref (V.2.2 32), .int (sI w 16), .ref (V.2.2 33)])) := rfl
theorem heM_1 (V : Ev) (w : Wd) : (cM V w)[1]? = some (V.2.2 1, .inl (V.2.1 0, 10, .inl (aI w 1))) := rfl
theorem hsM_1 (V : Ev) (w : Wd) (f : Nat → Int32) : (cM V w).set 1 (V.2.2 1, .inl (V.2.1 0, 10, .inl f)) = cM V (pA w 1 f) := rfl
theorem heM_2 (V : Ev) (w : Wd) : (cM V w)[2]? = some (V.2.2 2, .inl (V.2.1 0, 10, .inl (aI w 2))) := rfl
theorem hsM_2 (V : Ev) (w : Wd) (f : Nat → Int32) : (cM V w).set 2 (V.2.2 2, .inl (V.2.1 0, 10, .inl f)) = cM V (pA w 2 f) := rfl
theorem heM_3 (V : Ev) (w : Wd) : (cM V w)[3]? = some (V.2.2 3, .inl (V.2.1 0, 1000, .inl (aI w 3))) := rfl
theorem hsM_3 (V : Ev) (w : Wd) (f : Nat → Int32) : (cM V w).set 3 (V.2.2 3, .inl (V.2.1 0, 1000, .inl f)) = cM V (pA w 3 f) := rfl
theorem heM_4 (V : Ev) (w : Wd) : (cM V w)[4]? = some (V.2.2 4, .inl (V.2.1 0, 1000, .inl (aI w 4))) := rfl
theorem hsM_4 (V : Ev) (w : Wd) (f : Nat → Int32) : (cM V w).set 4 (V.2.2 4, .inl (V.2.1 0, 1000, .inl f)) = cM V (pA w 4 f) := rfl
theorem heM_5 (V : Ev) (w : Wd) : (cM V w)[5]? = some (V.2.2 5, .inl (V.2.1 0, 1000, .inl (aI w 5))) := rfl
theorem hsM_5 (V : Ev) (w : Wd) (f : Nat → Int32) : (cM V w).set 5 (V.2.2 5, .inl (V.2.1 0, 1000, .inl f)) = cM V (pA w 5 f) := rfl
theorem heM_6 (V : Ev) (w : Wd) : (cM V w)[6]? = some (V.2.2 6, .inl (V.2.1 1, 1000, .inr (.inl (aL w 6)))) := rfl
theorem hsM_6 (V : Ev) (w : Wd) (f : Nat → Int64) : (cM V w).set 6 (V.2.2 6, .inl (V.2.1 1, 1000, .inr (.inl f))) = cM V (pB w 6 f) := rfl
theorem heM_7 (V : Ev) (w : Wd) : (cM V w)[7]? = some (V.2.2 7, .inl (V.2.1 1, 1000, .inr (.inl (aL w 7)))) := rfl
theorem hsM_7 (V : Ev) (w : Wd) (f : Nat → Int64) : (cM V w).set 7 (V.2.2 7, .inl (V.2.1 1, 1000, .inr (.inl f))) = cM V (pB w 7 f) := rfl
theorem heM_8 (V : Ev) (w : Wd) : (cM V w)[8]? = some (V.2.2 8, .inl (V.2.1 1, 8000, .inr (.inl (aL w 8)))) := rfl
theorem hsM_8 (V : Ev) (w : Wd) (f : Nat → Int64) : (cM V w).set 8 (V.2.2 8, .inl (V.2.1 1, 8000, .inr (.inl f))) = cM V (pB w 8 f) := rfl
theorem heM_9 (V : Ev) (w : Wd) : (cM V w)[9]? = some (V.2.2 9, .inl (V.2.1 0, 16, .inl (aI w 9))) := rfl
theorem hsM_9 (V : Ev) (w : Wd) (f : Nat → Int32) : (cM V w).set 9 (V.2.2 9, .inl (V.2.1 0, 16, .inl f)) = cM V (pA w 9 f) := rfl
theorem heM_10 (V : Ev) (w : Wd) : (cM V w)[10]? = some (V.2.2 10, .inl (V.2.1 0, 16, .inl (aI w 10))) := rfl
theorem hsM_10 (V : Ev) (w : Wd) (f : Nat → Int32) : (cM V w).set 10 (V.2.2 10, .inl (V.2.1 0, 16, .inl f)) = cM V (pA w 10 f) := rfl
theorem heM_11 (V : Ev) (w : Wd) : (cM V w)[11]? = some (V.2.2 11, .inl (V.2.1 2, 16, .inl (aI w 11))) := rfl
theorem hsM_11 (V : Ev) (w : Wd) (f : Nat → Int32) : (cM V w).set 11 (V.2.2 11, .inl (V.2.1 2, 16, .inl f)) = cM V (pA w 11 f) := rfl
theorem heM_12 (V : Ev) (w : Wd) : (cM V w)[12]? = some (V.2.2 12, .inl (V.2.1 0, 8, .inl (aI w 12))) := rfl
theorem hsM_12 (V : Ev) (w : Wd) (f : Nat → Int32) : (cM V w).set 12 (V.2.2 12, .inl (V.2.1 0, 8, .inl f)) = cM V (pA w 12 f) := rfl
theorem heM_13 (V : Ev) (w : Wd) : (cM V w)[13]? = some (V.2.2 13, .inl (V.2.1 0, 1000, .inl (aI w 13))) := rfl
theorem hsM_13 (V : Ev) (w : Wd) (f : Nat → Int32) : (cM V w).set 13 (V.2.2 13, .inl (V.2.1 0, 1000, .inl f)) = cM V (pA w 13 f) := rfl
theorem heM_14 (V : Ev) (w : Wd) : (cM V w)[14]? = some (V.2.2 14, .inl (V.2.1 0, 1000, .inl (aI w 14))) := rfl
theorem hsM_14 (V : Ev) (w : Wd) (f : Nat → Int32) : (cM V w).set 14 (V.2.2 14, .inl (V.2.1 0, 1000, .inl f)) = cM V (pA w 14 f) := rfl
theorem heM_15 (V : Ev) (w : Wd) : (cM V w)[15]? = some (V.2.2 15, .inl (V.2.1 0, 100, .inl (aI w 15))) := rfl
theorem hsM_15 (V : Ev) (w : Wd) (f : Nat → Int32) : (cM V w).set 15 (V.2.2 15, .inl (V.2.1 0, 100, .inl f)) = cM V (pA w 15 f) := rfl
theorem heM_16 (V : Ev) (w : Wd) : (cM V w)[16]? = some (V.2.2 16, .inl (V.2.1 1, 100, .inr (.inl (aL w 16)))) := rfl
theorem hsM_16 (V : Ev) (w : Wd) (f : Nat → Int64) : (cM V w).set 16 (V.2.2 16, .inl (V.2.1 1, 100, .inr (.inl f))) = cM V (pB w 16 f) := rfl
theorem heM_17 (V : Ev) (w : Wd) : (cM V w)[17]? = some (V.2.2 17, .inl (V.2.1 0, 100, .inl (aI w 17))) := rfl
theorem hsM_17 (V : Ev) (w : Wd) (f : Nat → Int32) : (cM V w).set 17 (V.2.2 17, .inl (V.2.1 0, 100, .inl f)) = cM V (pA w 17 f) := rfl
theorem heM_18 (V : Ev) (w : Wd) : (cM V w)[18]? = some (V.2.2 18, .inl (V.2.1 1, 100, .inr (.inl (aL w 18)))) := rfl
theorem hsM_18 (V : Ev) (w : Wd) (f : Nat → Int64) : (cM V w).set 18 (V.2.2 18, .inl (V.2.1 1, 100, .inr (.inl f))) = cM V (pB w 18 f) := rfl
theorem heM_19 (V : Ev) (w : Wd) : (cM V w)[19]? = some (V.2.2 19, .inl (V.2.1 0, 8, .inl (aI w 19))) := rfl
theorem hsM_19 (V : Ev) (w : Wd) (f : Nat → Int32) : (cM V w).set 19 (V.2.2 19, .inl (V.2.1 0, 8, .inl f)) = cM V (pA w 19 f) := rfl
theorem heM_20 (V : Ev) (w : Wd) : (cM V w)[20]? = some (V.2.2 20, .inl (V.2.1 0, 8, .inl (aI w 20))) := rfl
theorem hsM_20 (V : Ev) (w : Wd) (f : Nat → Int32) : (cM V w).set 20 (V.2.2 20, .inl (V.2.1 0, 8, .inl f)) = cM V (pA w 20 f) := rfl
theorem heM_21 (V : Ev) (w : Wd) : (cM V w)[21]? = some (V.2.2 21, .inl (V.2.1 0, 8, .inl (aI w 21))) := rfl
theorem hsM_21 (V : Ev) (w : Wd) (f : Nat → Int32) : (cM V w).set 21 (V.2.2 21, .inl (V.2.1 0, 8, .inl f)) = cM V (pA w 21 f) := rfl
theorem heM_22 (V : Ev) (w : Wd) : (cM V w)[22]? = some (V.2.2 22, .inl (V.2.1 0, 60, .inl (aI w 22))) := rfl
theorem hsM_22 (V : Ev) (w : Wd) (f : Nat → Int32) : (cM V w).set 22 (V.2.2 22, .inl (V.2.1 0, 60, .inl f)) = cM V (pA w 22 f) := rfl
theorem heM_23 (V : Ev) (w : Wd) : (cM V w)[23]? = some (V.2.2 23, .inl (V.2.1 0, 60, .inl (aI w 23))) := rfl
theorem hsM_23 (V : Ev) (w : Wd) (f : Nat → Int32) : (cM V w).set 23 (V.2.2 23, .inl (V.2.1 0, 60, .inl f)) = cM V (pA w 23 f) := rfl
theorem heM_24 (V : Ev) (w : Wd) : (cM V w)[24]? = some (V.2.2 24, .inl (V.2.1 1, 60, .inr (.inl (aL w 24)))) := rfl
theorem hsM_24 (V : Ev) (w : Wd) (f : Nat → Int64) : (cM V w).set 24 (V.2.2 24, .inl (V.2.1 1, 60, .inr (.inl f))) = cM V (pB w 24 f) := rfl
theorem heM_25 (V : Ev) (w : Wd) : (cM V w)[25]? = some (V.2.2 25, .inl (V.2.1 0, 60, .inl (aI w 25))) := rfl
theorem hsM_25 (V : Ev) (w : Wd) (f : Nat → Int32) : (cM V w).set 25 (V.2.2 25, .inl (V.2.1 0, 60, .inl f)) = cM V (pA w 25 f) := rfl
theorem heM_26 (V : Ev) (w : Wd) : (cM V w)[26]? = some (V.2.2 26, .inl (V.2.1 0, 60, .inl (aI w 26))) := rfl
theorem hsM_26 (V : Ev) (w : Wd) (f : Nat → Int32) : (cM V w).set 26 (V.2.2 26, .inl (V.2.1 0, 60, .inl f)) = cM V (pA w 26 f) := rfl
theorem heM_27 (V : Ev) (w : Wd) : (cM V w)[27]? = some (V.2.2 27, .inl (V.2.1 0, 240, .inl (aI w 27))) := rfl
theorem hsM_27 (V : Ev) (w : Wd) (f : Nat → Int32) : (cM V w).set 27 (V.2.2 27, .inl (V.2.1 0, 240, .inl f)) = cM V (pA w 27 f) := rfl
theorem heM_28 (V : Ev) (w : Wd) : (cM V w)[28]? = some (V.2.2 28, .inl (V.2.1 1, 60, .inr (.inl (aL w 28)))) := rfl
theorem hsM_28 (V : Ev) (w : Wd) (f : Nat → Int64) : (cM V w).set 28 (V.2.2 28, .inl (V.2.1 1, 60, .inr (.inl f))) = cM V (pB w 28 f) := rfl
theorem heM_29 (V : Ev) (w : Wd) : (cM V w)[29]? = some (V.2.2 29, .inl (V.2.1 0, 160, .inl (aI w 29))) := rfl
theorem hsM_29 (V : Ev) (w : Wd) (f : Nat → Int32) : (cM V w).set 29 (V.2.2 29, .inl (V.2.1 0, 160, .inl f)) = cM V (pA w 29 f) := rfl
theorem heM_30 (V : Ev) (w : Wd) : (cM V w)[30]? = some (V.2.2 30, .inl (V.2.1 0, 8, .inl (aI w 30))) := rfl
theorem hsM_30 (V : Ev) (w : Wd) (f : Nat → Int32) : (cM V w).set 30 (V.2.2 30, .inl (V.2.1 0, 8, .inl f)) = cM V (pA w 30 f) := rfl
theorem heM_31 (V : Ev) (w : Wd) : (cM V w)[31]? = some (V.2.2 31, .inl (V.2.1 0, 1000, .inl (aI w 31))) := rfl
theorem hsM_31 (V : Ev) (w : Wd) (f : Nat → Int32) : (cM V w).set 31 (V.2.2 31, .inl (V.2.1 0, 1000, .inl f)) = cM V (pA w 31 f) := rfl
theorem heM_32 (V : Ev) (w : Wd) : (cM V w)[32]? = some (V.2.2 32, .inl (V.2.1 0, 8, .inl (aI w 32))) := rfl
theorem hsM_32 (V : Ev) (w : Wd) (f : Nat → Int32) : (cM V w).set 32 (V.2.2 32, .inl (V.2.1 0, 8, .inl f)) = cM V (pA w 32 f) := rfl
theorem heM_33 (V : Ev) (w : Wd) : (cM V w)[33]? = some (V.2.2 33, .inl (V.2.1 0, 4, .inl (aI w 33))) := rfl
theorem hsM_33 (V : Ev) (w : Wd) (f : Nat → Int32) : (cM V w).set 33 (V.2.2 33, .inl (V.2.1 0, 4, .inl f)) = cM V (pA w 33 f) := rfl
