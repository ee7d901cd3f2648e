/-! rows of values, told by a number -/
def dg (b c v : Nat) : Nat := c / b ^ v % b
def hvc (b c : Nat) : Nat → Nat := fun v => if v < 4 then dg b c v else 0
def vld (B : Bk) (b L c : Nat) : Prop := ∀ v, v < 4 → dg b c v = 0 ∨ 0 < ctB B L v
def vlb (B : Bk) (b L c v : Nat) : Bool := decide (dg b c v = 0 ∨ 0 < ctB B L v)
def Qr (B : Bk) (tab : Nat → Nat) (b L R c : Nat) : Bool := (vlb B b L c 0 && vlb B b L c 1 && vlb B b L c 2 && vlb B b L c 3) && decide (vlu B tab (hvc b c) L ≠ vlu B tab (hvc b c) R)
theorem Qr_iff {B : Bk} {tab : Nat → Nat} {b L R c : Nat} : Qr B tab b L R c = true ↔ vld B b L c ∧ vlu B tab (hvc b c) L ≠ vlu B tab (hvc b c) R := by
  unfold Qr vlb vld
  rw [Bool.and_eq_true, Bool.and_eq_true, Bool.and_eq_true, Bool.and_eq_true, decide_eq_true_iff, decide_eq_true_iff, decide_eq_true_iff, decide_eq_true_iff, decide_eq_true_iff]
  refine ⟨fun h => ⟨fun v hv => ?_, h.2⟩, fun h => ⟨⟨⟨⟨h.1 0 (by omega), h.1 1 (by omega)⟩, h.1 2 (by omega)⟩, h.1 3 (by omega)⟩, h.2⟩⟩
  have : v = 0 ∨ v = 1 ∨ v = 2 ∨ v = 3 := by omega
  rcases this with rfl | rfl | rfl | rfl
  · exact h.1.1.1.1
  · exact h.1.1.1.2
  · exact h.1.1.2
  · exact h.1.2
def scan (Q : Nat → Bool) : Nat → Nat → Option Nat
  | 0, _ => none
  | k + 1, c => if Q c then some c else scan Q k (c + 1)
theorem scan_skip {Q : Nat → Bool} : ∀ k j c, (∀ x, c ≤ x → x < c + j → Q x = false) → scan Q (k + j) c = scan Q k (c + j) := by
  intro k j
  induction j with
  | zero => intro c h; rfl
  | succ j ih =>
    intro c h
    show (if Q c = true then some c else scan Q (k + j) (c + 1)) = _
    rw [h c (by omega) (by omega), if_neg (by decide), ih (c + 1) (fun x h1 h2 => h x (by omega) (by omega))]
    congr 1
    omega
theorem four {P : Nat → Prop} (h : ∀ v, v < 4 → P v) : P 0 ∧ P 1 ∧ P 2 ∧ P 3 := ⟨h 0 (by omega), h 1 (by omega), h 2 (by omega), h 3 (by omega)⟩
theorem dg_gap {b v c x : Nat} {mk : Nat → Prop} (hb : b = 2 ∨ b = 3 ∨ b = 4) (hv : v ≤ 4) (hu : ∀ u, u < v → (mk u ∧ dg b c u = b - 1) ∨ (¬ mk u ∧ dg b c u = 0)) (h1 : c < x) (h2 : x < (c / b ^ v + 1) * b ^ v) (hx : ∀ u, u < 4 → dg b x u = 0 ∨ mk u) : False := by
  have hx4 := four hx
  have big : ∀ u, u < v → (dg b c u = b - 1) ∨ (dg b c u = 0 ∧ dg b x u = 0) := fun u h => by
    rcases hu u h with ⟨q1, q2⟩ | ⟨q1, q2⟩
    · exact Or.inl q2
    · exact Or.inr ⟨q2, (hx u (by omega)).resolve_right q1⟩
  have hv5 : v = 0 ∨ v = 1 ∨ v = 2 ∨ v = 3 ∨ v = 4 := by omega
  unfold dg at big
  rcases hb with rfl | rfl | rfl
  · rcases hv5 with rfl | rfl | rfl | rfl | rfl
    · simp only [Nat.reducePow] at *; omega
    · have b0 := big 0 (by omega)
      simp only [Nat.reducePow, Nat.reduceSub] at *; omega
    · have b0 := big 0 (by omega)
      have b1 := big 1 (by omega)
      simp only [Nat.reducePow, Nat.reduceSub] at *; omega
    · have b0 := big 0 (by omega)
      have b1 := big 1 (by omega)
      have b2 := big 2 (by omega)
      simp only [Nat.reducePow, Nat.reduceSub] at *; omega
    · have b0 := big 0 (by omega)
      have b1 := big 1 (by omega)
      have b2 := big 2 (by omega)
      have b3 := big 3 (by omega)
      simp only [Nat.reducePow, Nat.reduceSub] at *; omega
  · rcases hv5 with rfl | rfl | rfl | rfl | rfl
    · simp only [Nat.reducePow] at *; omega
    · have b0 := big 0 (by omega)
      simp only [Nat.reducePow, Nat.reduceSub] at *; omega
    · have b0 := big 0 (by omega)
      have b1 := big 1 (by omega)
      simp only [Nat.reducePow, Nat.reduceSub] at *; omega
    · have b0 := big 0 (by omega)
      have b1 := big 1 (by omega)
      have b2 := big 2 (by omega)
      simp only [Nat.reducePow, Nat.reduceSub] at *; omega
    · have b0 := big 0 (by omega)
      have b1 := big 1 (by omega)
      have b2 := big 2 (by omega)
      have b3 := big 3 (by omega)
      simp only [Nat.reducePow, Nat.reduceSub] at *; omega
  · rcases hv5 with rfl | rfl | rfl | rfl | rfl
    · simp only [Nat.reducePow] at *; omega
    · have b0 := big 0 (by omega)
      simp only [Nat.reducePow, Nat.reduceSub] at *; omega
    · have b0 := big 0 (by omega)
      have b1 := big 1 (by omega)
      simp only [Nat.reducePow, Nat.reduceSub] at *; omega
    · have b0 := big 0 (by omega)
      have b1 := big 1 (by omega)
      have b2 := big 2 (by omega)
      simp only [Nat.reducePow, Nat.reduceSub] at *; omega
    · have b0 := big 0 (by omega)
      have b1 := big 1 (by omega)
      have b2 := big 2 (by omega)
      have b3 := big 3 (by omega)
      simp only [Nat.reducePow, Nat.reduceSub] at *; omega
theorem dg_next {b v c : Nat} (hb : b = 2 ∨ b = 3 ∨ b = 4) (hv : v < 4) (hc : c < b ^ 4) (h : dg b c v < b - 1) : c < (c / b ^ v + 1) * b ^ v ∧ (c / b ^ v + 1) * b ^ v < b ^ 4 ∧ ∀ u, u < 4 → dg b ((c / b ^ v + 1) * b ^ v) u = if u < v then 0 else if u = v then dg b c v + 1 else dg b c u := by
  unfold dg at *
  have hv4 : v = 0 ∨ v = 1 ∨ v = 2 ∨ v = 3 := by omega
  have split4 : ∀ {P : Nat → Prop}, P 0 → P 1 → P 2 → P 3 → ∀ u, u < 4 → P u := fun h0 h1 h2 h3 u hu => by
    have : u = 0 ∨ u = 1 ∨ u = 2 ∨ u = 3 := by omega
    rcases this with rfl | rfl | rfl | rfl <;> assumption
  rcases hb with rfl | rfl | rfl <;> rcases hv4 with rfl | rfl | rfl | rfl <;> simp only [Nat.reducePow, Nat.reduceSub] at * <;> refine ⟨by omega, by omega, split4 ?_ ?_ ?_ ?_⟩ <;> simp only [Nat.reducePow, Nat.reduceLT, Nat.reduceEqDiff, if_true, if_false] <;> omega
