/-! trees: a sign with its parts, or a variable -/
abbrev Tr : Type := Std.Format
abbrev nd (h : Nat) (a b : Tr) : Tr := .tag h (.append a b)
abbrev vr (v : Nat) : Tr := .tag v .line
abbrev no : Tr := .nil
def sub (ρ : Nat → Tr) : Tr → Tr
  | .tag n (.append a b) => .tag n (.append (sub ρ a) (sub ρ b))
  | .tag n .line => ρ n
  | x => x
def tsz : Tr → Nat
  | .tag _ (.append a b) => 1 + tsz a + tsz b
  | .tag _ .line => 1
  | _ => 0
def tht : Tr → Nat
  | .tag _ (.append a b) => 1 + max (tht a) (tht b)
  | .tag _ .line => 1
  | _ => 0
/-- the variables, as they are met -/
def vs : Tr → List Nat
  | .tag _ (.append a b) => vs a ++ vs b
  | .tag v .line => [v]
  | _ => []
theorem sub_nd {ρ : Nat → Tr} {h : Nat} {a b : Tr} : sub ρ (nd h a b) = nd h (sub ρ a) (sub ρ b) := rfl
theorem sub_vr {ρ : Nat → Tr} {v : Nat} : sub ρ (vr v) = ρ v := rfl
theorem sub_no {ρ : Nat → Tr} : sub ρ no = no := rfl
theorem nd_inj {h h2 : Nat} {a b a2 b2 : Tr} (e : nd h a b = nd h2 a2 b2) : h = h2 ∧ a = a2 ∧ b = b2 := by
  cases e
  exact ⟨rfl, rfl, rfl⟩
