/-! what a link must be -/
def Lf (own : String) (index ci k : Nat) : Prop := ∃ (C : String) (T : u_T) (N : Nat), mcl[ci]? = some (C, T, N) ∧ k < N ∧ (∀ w ∈ u_ws C T N, w ∈ mW) ∧ Cond.fieldLink own index (T k).1 (T k).2.1 (T k).2.2.1 ∈ mW
def Lp (own : String) (index ci k : Nat) (ty : FieldType) (fin : Bool) : Prop := ∃ (C : String) (T : u_T) (N : Nat) (ty0 : Nat → FieldType), mcl[ci]? = some (C, T, N) ∧ k < N ∧ (∀ w ∈ u_ws C T N, w ∈ mW) ∧ Cond.fieldLink own index (T k).1 (T k).2.1 (T k).2.2.1 ∈ mW ∧
  (∀ k, k < N → parseFieldDescriptor (T k).2.2.1 = some (ty0 k)) ∧ (∀ a, a < N → ∀ b, b < N → a ≠ b → (T a).2.1 ≠ (T b).2.1) ∧ (T k).2.2.2 = fin ∧ (fin = true → (T k).1 = own) ∧ parseFieldDescriptor (T k).2.2.1 = some ty
def Lc (g : mI) (n : Nat) : Prop := Cond.code (iy g) (ib g) (il g) (ir g) ∈ mW ∧ Cond.initialized (iy g).cls ∈ mW ∧ ((iy g).cls ≠ "java/lang/invoke/MethodHandle" ∧ (iy g).cls ≠ "java/lang/invoke/VarHandle" ∧ (parseMethodDescriptor (iy g).desc).map (fun d => d.parameters.length) = some n) ∧ il g ≤ 45
def Lv (own : String) (index : Nat) (g : mI) : Prop := Cond.methodLink own index (iy g) ∈ mW ∧ Cond.instanceMethod (iy g) ∈ mW ∧ Cond.selects (iy g).cls (iy g) (iy g) ∈ mW
def Lst (own : String) (index : Nat) (g : mI) : Prop := Cond.methodLink own index (iy g) ∈ mW ∧ Cond.static (iy g) ∈ mW
def LsN (own : String) (index : Nat) (g : mI) (host : String) : Prop := Cond.methodLinkNest own index (iy g) host ∈ mNest ∧ Cond.static (iy g) ∈ mW
def Li (own : String) (index : Nat) (g : mI) : Prop := Cond.methodLink own index (iy g) ∈ mW ∧ Cond.instanceMethod (iy g) ∈ mW ∧ (iy g).name = "<init>" ∧ ir g = none
def LiN (own : String) (index : Nat) (g : mI) (host : String) : Prop := Cond.methodLinkNest own index (iy g) host ∈ mNest ∧ Cond.instanceMethod (iy g) ∈ mW ∧ (iy g).name = "<init>" ∧ ir g = none
