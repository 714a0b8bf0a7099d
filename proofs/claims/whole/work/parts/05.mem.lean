/- a memory: ints and longs by component and place -/
abbrev me_M : Type := (Nat → Nat → Int32) × (Nat → Nat → Int64)
def me_wi (μ : me_M) (c i : Nat) (x : Int32) : me_M := (fun c' => bif Nat.beq c' c then upd (μ.1 c) i x else μ.1 c', μ.2)
def me_wl (μ : me_M) (c i : Nat) (x : Int64) : me_M := (μ.1, fun c' => bif Nat.beq c' c then vp_updL (μ.2 c) i x else μ.2 c')
def me_cp (μ : me_M) (a c sp dp n : Nat) : me_M := (μ.1, fun c' => bif Nat.beq c' c then va_cpy (μ.2 a) (μ.2 c) sp dp n else μ.2 c')
/- guards: an index in its bounds, no division by zero, a truth value, a copy in its bounds -/
def me_gi {α : Type} (i : Int32) (n : Nat) (k : Option α) : Option α := if i < 0 ∨ n ≤ i.toNatClampNeg then none else k
def me_gd {α β : Type} [DecidableEq β] (y z : β) (k : Option α) : Option α := if y = z then none else k
def me_gz {α : Type} (x : Int32) (k : Option α) : Option α := if x = 0 ∨ x = 1 then k else none
def me_gc {α : Type} (sp dp ln : Int32) (n0 n1 : Nat) (k : Option α) : Option α := if ¬ sp < 0 ∧ ¬ dp < 0 ∧ ¬ ln < 0 ∧ sp.toNatClampNeg + ln.toNatClampNeg ≤ n0 ∧ dp.toNatClampNeg + ln.toNatClampNeg ≤ n1 then k else none
