/-! ===== programs over the memory: what a method does, as a function ===== -/
def ob1 {A1 B : Type} (x : Option (A1)) (f : A1 → Option B) : Option B := match x with
  | some a1 => f a1
  | none => none
theorem ob1_some {A1 B : Type} {x : Option (A1)} {f : A1 → Option B} {y : B} (h : ob1 x f = some y) : ∃ a1, x = some a1 ∧ f a1 = some y := by
  cases x with
  | none => cases h
  | some p => exact ⟨p, rfl, h⟩
theorem ob1_ok {A1 B : Type} {f : A1 → Option B} {a1 : A1} : ob1 (some a1) f = f a1 := rfl
def ob2 {A1 A2 B : Type} (x : Option (A1 × A2)) (f : A1 → A2 → Option B) : Option B := match x with
  | some (a1, a2) => f a1 a2
  | none => none
theorem ob2_some {A1 A2 B : Type} {x : Option (A1 × A2)} {f : A1 → A2 → Option B} {y : B} (h : ob2 x f = some y) : ∃ a1 a2, x = some (a1, a2) ∧ f a1 a2 = some y := by
  cases x with
  | none => cases h
  | some p => obtain ⟨a1, a2⟩ := p; exact ⟨a1, a2, rfl, h⟩
theorem ob2_ok {A1 A2 B : Type} {f : A1 → A2 → Option B} {a1 : A1} {a2 : A2} : ob2 (some (a1, a2)) f = f a1 a2 := rfl
def ob3 {A1 A2 A3 B : Type} (x : Option (A1 × A2 × A3)) (f : A1 → A2 → A3 → Option B) : Option B := match x with
  | some (a1, a2, a3) => f a1 a2 a3
  | none => none
theorem ob3_some {A1 A2 A3 B : Type} {x : Option (A1 × A2 × A3)} {f : A1 → A2 → A3 → Option B} {y : B} (h : ob3 x f = some y) : ∃ a1 a2 a3, x = some (a1, a2, a3) ∧ f a1 a2 a3 = some y := by
  cases x with
  | none => cases h
  | some p => obtain ⟨a1, a2, a3⟩ := p; exact ⟨a1, a2, a3, rfl, h⟩
theorem ob3_ok {A1 A2 A3 B : Type} {f : A1 → A2 → A3 → Option B} {a1 : A1} {a2 : A2} {a3 : A3} : ob3 (some (a1, a2, a3)) f = f a1 a2 a3 := rfl
def ob4 {A1 A2 A3 A4 B : Type} (x : Option (A1 × A2 × A3 × A4)) (f : A1 → A2 → A3 → A4 → Option B) : Option B := match x with
  | some (a1, a2, a3, a4) => f a1 a2 a3 a4
  | none => none
theorem ob4_some {A1 A2 A3 A4 B : Type} {x : Option (A1 × A2 × A3 × A4)} {f : A1 → A2 → A3 → A4 → Option B} {y : B} (h : ob4 x f = some y) : ∃ a1 a2 a3 a4, x = some (a1, a2, a3, a4) ∧ f a1 a2 a3 a4 = some y := by
  cases x with
  | none => cases h
  | some p => obtain ⟨a1, a2, a3, a4⟩ := p; exact ⟨a1, a2, a3, a4, rfl, h⟩
theorem ob4_ok {A1 A2 A3 A4 B : Type} {f : A1 → A2 → A3 → A4 → Option B} {a1 : A1} {a2 : A2} {a3 : A3} {a4 : A4} : ob4 (some (a1, a2, a3, a4)) f = f a1 a2 a3 a4 := rfl
def ob5 {A1 A2 A3 A4 A5 B : Type} (x : Option (A1 × A2 × A3 × A4 × A5)) (f : A1 → A2 → A3 → A4 → A5 → Option B) : Option B := match x with
  | some (a1, a2, a3, a4, a5) => f a1 a2 a3 a4 a5
  | none => none
theorem ob5_some {A1 A2 A3 A4 A5 B : Type} {x : Option (A1 × A2 × A3 × A4 × A5)} {f : A1 → A2 → A3 → A4 → A5 → Option B} {y : B} (h : ob5 x f = some y) : ∃ a1 a2 a3 a4 a5, x = some (a1, a2, a3, a4, a5) ∧ f a1 a2 a3 a4 a5 = some y := by
  cases x with
  | none => cases h
  | some p => obtain ⟨a1, a2, a3, a4, a5⟩ := p; exact ⟨a1, a2, a3, a4, a5, rfl, h⟩
theorem ob5_ok {A1 A2 A3 A4 A5 B : Type} {f : A1 → A2 → A3 → A4 → A5 → Option B} {a1 : A1} {a2 : A2} {a3 : A3} {a4 : A4} {a5 : A5} : ob5 (some (a1, a2, a3, a4, a5)) f = f a1 a2 a3 a4 a5 := rfl
def ob6 {A1 A2 A3 A4 A5 A6 B : Type} (x : Option (A1 × A2 × A3 × A4 × A5 × A6)) (f : A1 → A2 → A3 → A4 → A5 → A6 → Option B) : Option B := match x with
  | some (a1, a2, a3, a4, a5, a6) => f a1 a2 a3 a4 a5 a6
  | none => none
theorem ob6_some {A1 A2 A3 A4 A5 A6 B : Type} {x : Option (A1 × A2 × A3 × A4 × A5 × A6)} {f : A1 → A2 → A3 → A4 → A5 → A6 → Option B} {y : B} (h : ob6 x f = some y) : ∃ a1 a2 a3 a4 a5 a6, x = some (a1, a2, a3, a4, a5, a6) ∧ f a1 a2 a3 a4 a5 a6 = some y := by
  cases x with
  | none => cases h
  | some p => obtain ⟨a1, a2, a3, a4, a5, a6⟩ := p; exact ⟨a1, a2, a3, a4, a5, a6, rfl, h⟩
theorem ob6_ok {A1 A2 A3 A4 A5 A6 B : Type} {f : A1 → A2 → A3 → A4 → A5 → A6 → Option B} {a1 : A1} {a2 : A2} {a3 : A3} {a4 : A4} {a5 : A5} {a6 : A6} : ob6 (some (a1, a2, a3, a4, a5, a6)) f = f a1 a2 a3 a4 a5 a6 := rfl
def ob7 {A1 A2 A3 A4 A5 A6 A7 B : Type} (x : Option (A1 × A2 × A3 × A4 × A5 × A6 × A7)) (f : A1 → A2 → A3 → A4 → A5 → A6 → A7 → Option B) : Option B := match x with
  | some (a1, a2, a3, a4, a5, a6, a7) => f a1 a2 a3 a4 a5 a6 a7
  | none => none
theorem ob7_some {A1 A2 A3 A4 A5 A6 A7 B : Type} {x : Option (A1 × A2 × A3 × A4 × A5 × A6 × A7)} {f : A1 → A2 → A3 → A4 → A5 → A6 → A7 → Option B} {y : B} (h : ob7 x f = some y) : ∃ a1 a2 a3 a4 a5 a6 a7, x = some (a1, a2, a3, a4, a5, a6, a7) ∧ f a1 a2 a3 a4 a5 a6 a7 = some y := by
  cases x with
  | none => cases h
  | some p => obtain ⟨a1, a2, a3, a4, a5, a6, a7⟩ := p; exact ⟨a1, a2, a3, a4, a5, a6, a7, rfl, h⟩
theorem ob7_ok {A1 A2 A3 A4 A5 A6 A7 B : Type} {f : A1 → A2 → A3 → A4 → A5 → A6 → A7 → Option B} {a1 : A1} {a2 : A2} {a3 : A3} {a4 : A4} {a5 : A5} {a6 : A6} {a7 : A7} : ob7 (some (a1, a2, a3, a4, a5, a6, a7)) f = f a1 a2 a3 a4 a5 a6 a7 := rfl
def ob8 {A1 A2 A3 A4 A5 A6 A7 A8 B : Type} (x : Option (A1 × A2 × A3 × A4 × A5 × A6 × A7 × A8)) (f : A1 → A2 → A3 → A4 → A5 → A6 → A7 → A8 → Option B) : Option B := match x with
  | some (a1, a2, a3, a4, a5, a6, a7, a8) => f a1 a2 a3 a4 a5 a6 a7 a8
  | none => none
theorem ob8_some {A1 A2 A3 A4 A5 A6 A7 A8 B : Type} {x : Option (A1 × A2 × A3 × A4 × A5 × A6 × A7 × A8)} {f : A1 → A2 → A3 → A4 → A5 → A6 → A7 → A8 → Option B} {y : B} (h : ob8 x f = some y) : ∃ a1 a2 a3 a4 a5 a6 a7 a8, x = some (a1, a2, a3, a4, a5, a6, a7, a8) ∧ f a1 a2 a3 a4 a5 a6 a7 a8 = some y := by
  cases x with
  | none => cases h
  | some p => obtain ⟨a1, a2, a3, a4, a5, a6, a7, a8⟩ := p; exact ⟨a1, a2, a3, a4, a5, a6, a7, a8, rfl, h⟩
theorem ob8_ok {A1 A2 A3 A4 A5 A6 A7 A8 B : Type} {f : A1 → A2 → A3 → A4 → A5 → A6 → A7 → A8 → Option B} {a1 : A1} {a2 : A2} {a3 : A3} {a4 : A4} {a5 : A5} {a6 : A6} {a7 : A7} {a8 : A8} : ob8 (some (a1, a2, a3, a4, a5, a6, a7, a8)) f = f a1 a2 a3 a4 a5 a6 a7 a8 := rfl
def ob9 {A1 A2 A3 A4 A5 A6 A7 A8 A9 B : Type} (x : Option (A1 × A2 × A3 × A4 × A5 × A6 × A7 × A8 × A9)) (f : A1 → A2 → A3 → A4 → A5 → A6 → A7 → A8 → A9 → Option B) : Option B := match x with
  | some (a1, a2, a3, a4, a5, a6, a7, a8, a9) => f a1 a2 a3 a4 a5 a6 a7 a8 a9
  | none => none
theorem ob9_some {A1 A2 A3 A4 A5 A6 A7 A8 A9 B : Type} {x : Option (A1 × A2 × A3 × A4 × A5 × A6 × A7 × A8 × A9)} {f : A1 → A2 → A3 → A4 → A5 → A6 → A7 → A8 → A9 → Option B} {y : B} (h : ob9 x f = some y) : ∃ a1 a2 a3 a4 a5 a6 a7 a8 a9, x = some (a1, a2, a3, a4, a5, a6, a7, a8, a9) ∧ f a1 a2 a3 a4 a5 a6 a7 a8 a9 = some y := by
  cases x with
  | none => cases h
  | some p => obtain ⟨a1, a2, a3, a4, a5, a6, a7, a8, a9⟩ := p; exact ⟨a1, a2, a3, a4, a5, a6, a7, a8, a9, rfl, h⟩
theorem ob9_ok {A1 A2 A3 A4 A5 A6 A7 A8 A9 B : Type} {f : A1 → A2 → A3 → A4 → A5 → A6 → A7 → A8 → A9 → Option B} {a1 : A1} {a2 : A2} {a3 : A3} {a4 : A4} {a5 : A5} {a6 : A6} {a7 : A7} {a8 : A8} {a9 : A9} : ob9 (some (a1, a2, a3, a4, a5, a6, a7, a8, a9)) f = f a1 a2 a3 a4 a5 a6 a7 a8 a9 := rfl
def ob10 {A1 A2 A3 A4 A5 A6 A7 A8 A9 A10 B : Type} (x : Option (A1 × A2 × A3 × A4 × A5 × A6 × A7 × A8 × A9 × A10)) (f : A1 → A2 → A3 → A4 → A5 → A6 → A7 → A8 → A9 → A10 → Option B) : Option B := match x with
  | some (a1, a2, a3, a4, a5, a6, a7, a8, a9, a10) => f a1 a2 a3 a4 a5 a6 a7 a8 a9 a10
  | none => none
theorem ob10_some {A1 A2 A3 A4 A5 A6 A7 A8 A9 A10 B : Type} {x : Option (A1 × A2 × A3 × A4 × A5 × A6 × A7 × A8 × A9 × A10)} {f : A1 → A2 → A3 → A4 → A5 → A6 → A7 → A8 → A9 → A10 → Option B} {y : B} (h : ob10 x f = some y) : ∃ a1 a2 a3 a4 a5 a6 a7 a8 a9 a10, x = some (a1, a2, a3, a4, a5, a6, a7, a8, a9, a10) ∧ f a1 a2 a3 a4 a5 a6 a7 a8 a9 a10 = some y := by
  cases x with
  | none => cases h
  | some p => obtain ⟨a1, a2, a3, a4, a5, a6, a7, a8, a9, a10⟩ := p; exact ⟨a1, a2, a3, a4, a5, a6, a7, a8, a9, a10, rfl, h⟩
theorem ob10_ok {A1 A2 A3 A4 A5 A6 A7 A8 A9 A10 B : Type} {f : A1 → A2 → A3 → A4 → A5 → A6 → A7 → A8 → A9 → A10 → Option B} {a1 : A1} {a2 : A2} {a3 : A3} {a4 : A4} {a5 : A5} {a6 : A6} {a7 : A7} {a8 : A8} {a9 : A9} {a10 : A10} : ob10 (some (a1, a2, a3, a4, a5, a6, a7, a8, a9, a10)) f = f a1 a2 a3 a4 a5 a6 a7 a8 a9 a10 := rfl
def jn {A B : Type} (a : A) (f : A → B) : B := f a
theorem nn {A : Type} {p : Prop} {x : A} (h : (none : Option A) = some x) : p := by cases h
theorem ip {A : Type} {c : Prop} {i : Decidable c} {x y z : A} (h : @ite A c i x y = z) (hc : c) : x = z := (if_pos hc).symm.trans h
theorem inn {A : Type} {c : Prop} {i : Decidable c} {x y z : A} (h : @ite A c i x y = z) (hc : ¬ c) : y = z := (if_neg hc).symm.trans h
theorem nb_t {x : Bool} (h : x = true) : ¬ (!x) = true := by subst h; decide
theorem nb_f {x : Bool} (h : ¬ x = true) : (!x) = true := by cases x with | false => rfl | true => exact absurd rfl h
def inb (n : Nat) (i : Int32) : Bool := !decide (i < 0) && decide (i.toNatClampNeg < n)
theorem inb_ix {n : Nat} {i : Int32} (h : inb n i = true) : ix i i.toNatClampNeg ∧ i.toNatClampNeg < n := by
  unfold inb at h
  rw [Bool.and_eq_true, Bool.not_eq_true', decide_eq_false_iff_not, decide_eq_true_eq] at h
  refine ⟨?_, h.2⟩
  unfold ix
  have h1 : i.toNatClampNeg = i.toInt.toNat := rfl
  have h2 := h.1
  rw [Int32.lt_iff_toInt_lt] at h2
  have h0 : (0 : Int32).toInt = 0 := rfl
  rw [h1]
  omega
def ra (M : mM) (c n : Nat) (i : Int32) : Option Int32 := if inb n i = true then some (M c i.toNatClampNeg) else none
def wa (M : mM) (c n : Nat) (i x : Int32) : Option mM := if inb n i = true then some (up M c i.toNatClampNeg x) else none
def rxs (g : Nat → Int32) (n : Nat) (i : Int32) : Option Int32 := if inb n i = true then some (g i.toNatClampNeg) else none
def nz {A : Type} (y : Int32) (x : A) : Option A := if y = 0 then none else some x
def jrem (x y : Int32) : Int32 := x - x / y * y
def jushr (x y : Int32) : Int32 := (x.toUInt32 >>> (y.toUInt32 &&& Int32.toUInt32 31)).toInt32
def jshl (x y : Int32) : Int32 := x <<< (y &&& 31)
def jshr (x y : Int32) : Int32 := x >>> (y &&& 31)
def ji2c (x : Int32) : Int32 := (x.toUInt32 % 65536).toInt32
def isTh (c : Nat) : Bool := match SH[c]? with
  | some (8, _, _) => true
  | _ => false
set_option maxRecDepth 100000 in
theorem SH_th : SH.all (fun k => match k with | (8, _, _) => isTk k | _ => true) = true := by decide +kernel
theorem isTk_eq {k : mK} (h : isTk k = true) : k = (8, 0, [none, none, none, none, none, none, none]) := by
  unfold isTk at h
  split at h
  · rfl
  · cases h
theorem shTh {c : Nat} (h : isTh c = true) : SH[c]? = some (8, 0, [none, none, none, none, none, none, none]) := by
  unfold isTh at h
  split at h
  · rename_i n ss he
    have h1 := List.all_eq_true.mp SH_th _ (List.mem_of_getElem? he)
    rw [he, isTk_eq h1]
  · cases h
def rvO (t : Option Nat) : Value := match t with
  | some c => .ref c
  | none => .null
def dT (t : Option Nat) : Option Nat := match t with
  | some c => if isTh c = true then some c else none
  | none => none
theorem dT_some {t : Option Nat} {c : Nat} (h : dT t = some c) : t = some c ∧ isTh c = true := by
  unfold dT at h
  split at h
  · split at h
    · cases h
      exact ⟨rfl, by assumption⟩
    · cases h
  · cases h
theorem dT_th {t : Option Nat} {c : Nat} (h : dT t = some c) : isTh c = true := (dT_some h).2
def gTh (c : Nat) : Option Unit := if isTh c = true then some () else none
theorem gT_th {c : Nat} {u : Unit} (h : gTh c = some u) : isTh c = true := by
  unfold gTh at h
  split at h
  · assumption
  · cases h
def rT (M : mM) (c n : Nat) (i : Int32) : Option Nat := if inb n i = true ∧ ¬ M c i.toNatClampNeg < 0 ∧ isTh (M c i.toNatClampNeg).toNatClampNeg = true then some (M c i.toNatClampNeg).toNatClampNeg else none
theorem rT_some {M : mM} {c n k : Nat} {i : Int32} (h : rT M c n i = some k) : inb n i = true ∧ ix (M c i.toNatClampNeg) k ∧ isTh k = true := by
  unfold rT at h
  split at h
  · rename_i h1
    cases h
    refine ⟨h1.1, ?_, h1.2.2⟩
    unfold ix
    have h2 := h1.2.1
    rw [Int32.lt_iff_toInt_lt] at h2
    have h0 : (0 : Int32).toInt = 0 := rfl
    have h3 : (M c i.toNatClampNeg).toNatClampNeg = (M c i.toNatClampNeg).toInt.toNat := rfl
    rw [h3]
    omega
  · cases h
theorem rT_th {M : mM} {c n k : Nat} {i : Int32} (h : rT M c n i = some k) : isTh k = true := (rT_some h).2.2
def isWb (w : Nat) : Bool := [1, 50, 109, 150, 177, 204, 231, 258, 285].contains w
theorem isWb_W {w : Nat} (h : isWb w = true) : isW w := by
  unfold isWb at h
  exact List.contains_iff_mem.mp h
def rW (M : mM) (c n : Nat) (i : Int32) : Option Nat := if inb n i = true ∧ ¬ M c i.toNatClampNeg < 0 ∧ isWb (M c i.toNatClampNeg).toNatClampNeg = true then some (M c i.toNatClampNeg).toNatClampNeg else none
theorem rW_some {M : mM} {c n k : Nat} {i : Int32} (h : rW M c n i = some k) : inb n i = true ∧ ix (M c i.toNatClampNeg) k ∧ isW k := by
  unfold rW at h
  split at h
  · rename_i h1
    cases h
    refine ⟨h1.1, ?_, isWb_W h1.2.2⟩
    unfold ix
    have h2 := h1.2.1
    rw [Int32.lt_iff_toInt_lt] at h2
    have h0 : (0 : Int32).toInt = 0 := rfl
    have h3 : (M c i.toNatClampNeg).toNatClampNeg = (M c i.toNatClampNeg).toInt.toNat := rfl
    rw [h3]
    omega
  · cases h
theorem rW_w {M : mM} {c n k : Nat} {i : Int32} (h : rW M c n i = some k) : isW k := (rW_some h).2.2
def wcOk (n0 n1 : Nat) (j0 j1 n : Int32) : Bool := !decide (j0 < 0) && !decide (j1 < 0) && !decide (n < 0) && decide (j0.toNatClampNeg + n.toNatClampNeg ≤ n0) && decide (j1.toNatClampNeg + n.toNatClampNeg ≤ n1)
def wc (M : mM) (c0 n0 : Nat) (j0 : Int32) (c1 n1 : Nat) (j1 n : Int32) : Option mM := if wcOk n0 n1 j0 j1 n = true then some (upR M c1 (va_cpy (M c0) (M c1) j0.toNatClampNeg j1.toNatClampNeg n.toNatClampNeg)) else none
theorem ix_of {i : Int32} (h : ¬ i < 0) : ix i i.toNatClampNeg := by
  unfold ix
  have h1 : i.toNatClampNeg = i.toInt.toNat := rfl
  rw [Int32.lt_iff_toInt_lt] at h
  have h0 : (0 : Int32).toInt = 0 := rfl
  rw [h1]
  omega
/-! shapes -/
def isR (r wd mo : Nat) : Prop := SH[r]? = some (7, 0, [some (.int (nI wd)), some (.int (nI mo)), some (.ref (r + 1)), none]) ∧ SH[r + 1]? = some (0, wd * mo, [])
theorem isR0 {r wd mo : Nat} (h : isR r wd mo) : SH[r]? = some (7, 0, [some (.int (nI wd)), some (.int (nI mo)), some (.ref (r + 1)), none]) := h.1
theorem isR1 {r wd mo : Nat} (h : isR r wd mo) : SH[r + 1]? = some (0, wd * mo, []) := h.2
theorem isR_ite {c : Prop} {i : Decidable c} {a b wd mo : Nat} (h1 : isR a wd mo) (h2 : isR b wd mo) : isR (@ite Nat c i a b) wd mo := by
  by_cases h : c
  · rw [if_pos h]; exact h1
  · rw [if_neg h]; exact h2
theorem isR_book {w : Nat} (h : isW w) : isR (w + 5) 4 150 := ⟨shW5 h, shW6 h⟩
def isTd (t : Nat) : Prop := t = 28 ∨ t = 77
def isL (l : Nat) : Prop := l = 29 ∨ l = 78
theorem isTd_28 : isTd 28 := Or.inl rfl
theorem isTd_77 : isTd 77 := Or.inr rfl
theorem isL_of {t : Nat} (h : isTd t) : isL (t + 1) := by
  rcases h with rfl | rfl
  · exact Or.inl rfl
  · exact Or.inr rfl
theorem isW_1 : isW 1 := by unfold isW; decide
theorem isW_50 : isW 50 := by unfold isW; decide
theorem isW_109 : isW 109 := by unfold isW; decide
theorem isR_found : isR 102 5 16 := ⟨sh_102, sh_103⟩
set_option maxRecDepth 100000 in
theorem shT0 {t : Nat} (h : isTd t) : SH[t]? = some (9, 0, [some (.ref (t + 1)), some (.ref (t + 6)), some (.ref (t + 8)), some (.ref (t + 10)), some (.ref (t + 12)), some (.ref (t + 14)), some (.ref (t + 16)), some (.ref (t + 18)), some (.ref (t + 20))]) := by
  rcases h with rfl | rfl <;> rfl
set_option maxRecDepth 100000 in
theorem shL0 {l : Nat} (h : isL l) : SH[l]? = some (4, 0, [some (.ref (l + 1)), some (.ref (l + 3)), none, some (.ref (l + 4))]) := by
  rcases h with rfl | rfl <;> rfl
set_option maxRecDepth 100000 in
theorem isR_lines {l : Nat} (h : isL l) : isR (l + 1) 5 16 := by
  rcases h with rfl | rfl <;> exact ⟨rfl, rfl⟩
set_option maxRecDepth 100000 in
theorem shL3 {l : Nat} (h : isL l) : SH[l + 3]? = some (0, 400, []) := by
  rcases h with rfl | rfl <;> rfl
set_option maxRecDepth 100000 in
theorem shL4 {l : Nat} (h : isL l) : SH[l + 4]? = some (0, 64, []) := by
  rcases h with rfl | rfl <;> rfl
set_option maxRecDepth 100000 in
theorem isR_flight {t : Nat} (h : isTd t) : isR (t + 6) 5 16 := by
  rcases h with rfl | rfl <;> exact ⟨rfl, rfl⟩
set_option maxRecDepth 100000 in
theorem isR_sky {t : Nat} (h : isTd t) : isR (t + 8) 5 16 := by
  rcases h with rfl | rfl <;> exact ⟨rfl, rfl⟩
set_option maxRecDepth 100000 in
theorem isR_strips {t : Nat} (h : isTd t) : isR (t + 10) 5 16 := by
  rcases h with rfl | rfl <;> exact ⟨rfl, rfl⟩
set_option maxRecDepth 100000 in
theorem isR_row {t : Nat} (h : isTd t) : isR (t + 12) 1 8 := by
  rcases h with rfl | rfl <;> exact ⟨rfl, rfl⟩
set_option maxRecDepth 100000 in
theorem isR_words {t : Nat} (h : isTd t) : isR (t + 14) 2 6 := by
  rcases h with rfl | rfl <;> exact ⟨rfl, rfl⟩
set_option maxRecDepth 100000 in
theorem isR_looks {t : Nat} (h : isTd t) : isR (t + 16) 1 8 := by
  rcases h with rfl | rfl <;> exact ⟨rfl, rfl⟩
set_option maxRecDepth 100000 in
theorem isR_veins {t : Nat} (h : isTd t) : isR (t + 18) 2 9 := by
  rcases h with rfl | rfl <;> exact ⟨rfl, rfl⟩
set_option maxRecDepth 100000 in
theorem isR_otherVeins {t : Nat} (h : isTd t) : isR (t + 20) 2 9 := by
  rcases h with rfl | rfl <;> exact ⟨rfl, rfl⟩
theorem lac_World_68 : Cond.methodLink "StuckRecord$World" 68 arraycopyName ∈ mW := mW_at 597 (by decide +kernel) rfl
theorem lac_Rows_40 : Cond.methodLink "StuckRecord$Rows" 40 arraycopyName ∈ mW := mW_at 611 (by decide +kernel) rfl
theorem lac_Law_41 : Cond.methodLink "StuckRecord$Law" 41 arraycopyName ∈ mW := mW_at 968 (by decide +kernel) rfl
theorem lac_Layers_34 : Cond.methodLink "StuckRecord$Layers" 34 arraycopyName ∈ mW := mW_at 1082 (by decide +kernel) rfl
theorem lx_Dates_19 : Cond.fieldLink "StuckRecord$Dates" 19 "StuckRecord$Dates" "MONTHS" "[I" ∈ mW := mW_at 1165 (by decide +kernel) rfl
theorem lx_Asker_113 : Cond.fieldLink "StuckRecord$Asker" 113 "StuckRecord$Asker" "WORTHS" "[I" ∈ mW := mW_at 1229 (by decide +kernel) rfl
theorem lac0 : Cond.native arraycopyName ∈ mW ∧ Cond.static arraycopyName ∈ mW ∧ Cond.initialized "java/lang/System" ∈ mW := ⟨mW_at 599 (by decide +kernel) rfl, mW_at 598 (by decide +kernel) rfl, mW_at 157 (by decide +kernel) rfl⟩
section S13
variable {X : mXs} {d : Nat} {f g : mI} {kn : Nat × Nat} {pc : Nat} {ls st : List Value} {M : mM} {Hm : mH} {Q : Option Value → mH → Prop}
theorem wp_ineg {x : Int32} (hd : decode (ib f) pc = .ok (.ineg, 1)) (k : wp X d f kn (pc + 1) ls (.int (-x) :: st) Hm Q) : wp X d f kn pc ls (.int x :: st) Hm Q := by
  intro G p e s m args below meth c a H locs C hS hV hL hz
  exact lv_ineg C.1 C.2.1 hd (k G p e s m args below meth c a H locs C hS hV hL hz)
theorem wa_ald {c n : Nat} {i v : Int32} (hd : decode (ib f) pc = .ok (.iaload, 1)) (hs : SH[c]? = some (0, n, [])) (h : ra M c n i = some v) (k : wp X d f kn (pc + 1) ls (.int v :: st) (lay M) Q) : wp X d f kn pc ls (.int i :: .ref c :: st) (lay M) Q := by
  unfold ra at h
  split at h
  · rename_i h1
    exact wl_ald hd hs (inb_ix h1).1 (inb_ix h1).2 (Option.some.inj h) k
  · cases h
theorem wa_ast {c n : Nat} {i x : Int32} {M' : mM} (hd : decode (ib f) pc = .ok (.iastore, 1)) (hs : SH[c]? = some (0, n, [])) (h : wa M c n i x = some M') (k : wp X d f kn (pc + 1) ls st (lay M') Q) : wp X d f kn pc ls (.int x :: .int i :: .ref c :: st) (lay M) Q := by
  unfold wa at h
  split at h
  · rename_i h1
    cases h
    exact wl_ast hd hs (inb_ix h1).1 (inb_ix h1).2 k
  · cases h
theorem wa_aald {c n c1 : Nat} {i : Int32} (hd : decode (ib f) pc = .ok (.aaload, 1)) (hs : SH[c]? = some (1, n, [])) (h : rT M c n i = some c1) (k : wp X d f kn (pc + 1) ls (.ref c1 :: st) (lay M) Q) : wp X d f kn pc ls (.int i :: .ref c :: st) (lay M) Q := by
  obtain ⟨h1, h2, -⟩ := rT_some h
  exact wl_aald hd hs (inb_ix h1).1 (inb_ix h1).2 h2 k
theorem wa_aaldW {c n c1 : Nat} {i : Int32} (hd : decode (ib f) pc = .ok (.aaload, 1)) (hs : SH[c]? = some (2, n, [])) (h : rW M c n i = some c1) (k : wp X d f kn (pc + 1) ls (.ref c1 :: st) (lay M) Q) : wp X d f kn pc ls (.int i :: .ref c :: st) (lay M) Q := by
  obtain ⟨h1, h2, -⟩ := rW_some h
  exact wl_aaldW hd hs (inb_ix h1).1 (inb_ix h1).2 h2 k
set_option maxRecDepth 100000 in
theorem isTh_lt {c : Nat} (h : isTh c = true) : c < 2147483648 := by
  have h1 := (List.getElem?_eq_some_iff.mp (shTh h)).1
  have h2 : SH.length = 344 := rfl
  omega
theorem wa_aast {c n c1 : Nat} {i : Int32} {M' : mM} (hd : decode (ib f) pc = .ok (.aastore, 1)) (hs : SH[c]? = some (1, n, [])) (ht : isTh c1 = true) (h : wa M c n i (nI c1) = some M') (k : wp X d f kn (pc + 1) ls st (lay M') Q) : wp X d f kn pc ls (.ref c1 :: .int i :: .ref c :: st) (lay M) Q := by
  unfold wa at h
  split at h
  · rename_i h1
    cases h
    exact wl_aast hd hs (inb_ix h1).1 (inb_ix h1).2 (shTh ht) (ix_nI (isTh_lt ht)) k
  · cases h
theorem wa_copy {index c0 c1 n0 n1 : Nat} {j0 j1 n : Int32} {M' : mM} (hd : decode (ib f) pc = .ok (.invokestatic index, 3)) (hl : Cond.methodLink (iy f).cls index arraycopyName ∈ mW) (h0 : SH[c0]? = some (0, n0, [])) (h1 : SH[c1]? = some (0, n1, [])) (h : wc M c0 n0 j0 c1 n1 j1 n = some M') (k : wp X (d + 1) f kn (pc + 3) ls [] (lay M') Q) : wp X (d + 1) f kn pc ls [.int n, .int j1, .ref c1, .int j0, .ref c0] (lay M) Q := by
  unfold wc at h
  split at h
  · rename_i h2
    cases h
    unfold wcOk at h2
    simp only [Bool.and_eq_true, Bool.not_eq_true', decide_eq_false_iff_not, decide_eq_true_eq] at h2
    obtain ⟨⟨⟨⟨a1, a2⟩, a3⟩, a4⟩, a5⟩ := h2
    exact wl_copy hd hl lac0 h0 h1 (ix_of a1) (ix_of a2) (ix_of a3) a4 a5 rfl k
  · cases h
theorem wx_ald {k n : Nat} {gg : Nat → Int32} {i v : Int32} (hd : decode (ib f) pc = .ok (.iaload, 1)) (hk : k < 3) (e1 : xLen X k = n) (e2 : xVal X k = gg) (h : rxs gg n i = some v) (kk : wp X d f kn (pc + 1) ls (.int v :: st) Hm Q) : wp X d f kn pc ls (.int i :: .ref (100000 + k) :: st) Hm Q := by
  unfold rxs at h
  split at h
  · rename_i h1
    subst e1
    subst e2
    exact wp_xald hd hk (inb_ix h1).1 (inb_ix h1).2 (Option.some.inj h) kk
  · cases h
theorem wq_idiv {x y v : Int32} (hd : decode (ib f) pc = .ok (.idiv, 1)) (h : nz y (x / y) = some v) (k : wp X d f kn (pc + 1) ls (.int v :: st) Hm Q) : wp X d f kn pc ls (.int y :: .int x :: st) Hm Q := by
  unfold nz at h
  split at h
  · cases h
  · rename_i h1
    cases h
    exact wp_idiv hd h1 k
theorem wq_irem {x y v : Int32} (hd : decode (ib f) pc = .ok (.irem, 1)) (h : nz y (jrem x y) = some v) (k : wp X d f kn (pc + 1) ls (.int v :: st) Hm Q) : wp X d f kn pc ls (.int y :: .int x :: st) Hm Q := by
  unfold nz at h
  split at h
  · cases h
  · rename_i h1
    cases h
    exact wp_irem hd h1 k
theorem wx_M {M0 M1 : mM} (h : some M0 = some M1) (k : wp X d f kn pc ls st (lay M1) Q) : wp X d f kn pc ls st (lay M0) Q := by cases h; exact k
theorem wx_int {e x : Int32} (h : some e = some x) (k : wp X d f kn pc ls (.int x :: st) Hm Q) : wp X d f kn pc ls (.int e :: st) Hm Q := by cases h; exact k
theorem wx_bool {e x : Bool} (h : some e = some x) (k : wp X d f kn pc ls (.int (bI x) :: st) Hm Q) : wp X d f kn pc ls (.int (bI e) :: st) Hm Q := by cases h; exact k
theorem wj_t {p : Prop} {i : Decidable p} (e : p) (k : wp X d f kn pc ls (.int (bI (@decide p i)) :: st) Hm Q) : wp X d f kn pc ls (.int (nI 1) :: st) Hm Q := by
  rw [decide_eq_true e] at k; exact k
theorem wj_f {p : Prop} {i : Decidable p} (e : ¬ p) (k : wp X d f kn pc ls (.int (bI (@decide p i)) :: st) Hm Q) : wp X d f kn pc ls (.int (nI 0) :: st) Hm Q := by
  rw [decide_eq_false e] at k; exact k
theorem wj_b1 {b : Bool} (e : b = true) (k : wp X d f kn pc ls (.int (bI b) :: st) Hm Q) : wp X d f kn pc ls (.int (nI 1) :: st) Hm Q := by
  subst e; exact k
theorem wj_b0 {b : Bool} (e : ¬ b = true) (k : wp X d f kn pc ls (.int (bI b) :: st) Hm Q) : wp X d f kn pc ls (.int (nI 0) :: st) Hm Q := by
  cases b with
  | false => exact k
  | true => exact absurd rfl e
theorem wj_ip {c : Prop} {i : Decidable c} {x y : Int32} (e : c) (k : wp X d f kn pc ls (.int (@ite Int32 c i x y) :: st) Hm Q) : wp X d f kn pc ls (.int x :: st) Hm Q := by
  rw [if_pos e] at k; exact k
theorem wj_in {c : Prop} {i : Decidable c} {x y : Int32} (e : ¬ c) (k : wp X d f kn pc ls (.int (@ite Int32 c i x y) :: st) Hm Q) : wp X d f kn pc ls (.int y :: st) Hm Q := by
  rw [if_neg e] at k; exact k
theorem wj_ipb {c : Prop} {i : Decidable c} {x y : Bool} (e : c) (k : wp X d f kn pc ls (.int (bI (@ite Bool c i x y)) :: st) Hm Q) : wp X d f kn pc ls (.int (bI x) :: st) Hm Q := by
  rw [if_pos e] at k; exact k
theorem wj_inb {c : Prop} {i : Decidable c} {x y : Bool} (e : ¬ c) (k : wp X d f kn pc ls (.int (bI (@ite Bool c i x y)) :: st) Hm Q) : wp X d f kn pc ls (.int (bI y) :: st) Hm Q := by
  rw [if_neg e] at k; exact k
theorem wj_ipr {c : Prop} {i : Decidable c} {x y : Nat} (e : c) (k : wp X d f kn pc ls (.ref (@ite Nat c i x y) :: st) Hm Q) : wp X d f kn pc ls (.ref x :: st) Hm Q := by
  rw [if_pos e] at k; exact k
theorem wj_inr {c : Prop} {i : Decidable c} {x y : Nat} (e : ¬ c) (k : wp X d f kn pc ls (.ref (@ite Nat c i x y) :: st) Hm Q) : wp X d f kn pc ls (.ref y :: st) Hm Q := by
  rw [if_neg e] at k; exact k
theorem wc_eq {p : Bool} {off : Int} (tgt : Nat) (hd : decode (ib f) pc = .ok (.ifCond .eq off, 3)) (ht : (pc : Int) + off = (tgt : Int)) (kt : ¬ p = true → wp X d f kn tgt ls st Hm Q) (kf : p = true → wp X d f kn (pc + 3) ls st Hm Q) : wp X d f kn pc ls (.int (bI p) :: st) Hm Q :=
  wb_eq tgt hd ht (fun h => kt (by rw [h]; decide)) kf
theorem wc_ne {p : Bool} {off : Int} (tgt : Nat) (hd : decode (ib f) pc = .ok (.ifCond .ne off, 3)) (ht : (pc : Int) + off = (tgt : Int)) (kt : p = true → wp X d f kn tgt ls st Hm Q) (kf : ¬ p = true → wp X d f kn (pc + 3) ls st Hm Q) : wp X d f kn pc ls (.int (bI p) :: st) Hm Q :=
  wb_ne tgt hd ht kt (fun h => kf (by rw [h]; decide))
theorem bI_inj {p q : Bool} : bI p = bI q ↔ p = q := by cases p <;> cases q <;> decide
theorem wbb_eq {p q : Bool} {off : Int} (tgt : Nat) (hd : decode (ib f) pc = .ok (.if_icmp .eq off, 3)) (ht : (pc : Int) + off = (tgt : Int)) (kt : p = q → wp X d f kn tgt ls st Hm Q) (kf : ¬ p = q → wp X d f kn (pc + 3) ls st Hm Q) : wp X d f kn pc ls (.int (bI q) :: .int (bI p) :: st) Hm Q :=
  wq_icmp_eq tgt hd ht (fun h => kt (bI_inj.mp h)) (fun h => kf (fun e => h (bI_inj.mpr e)))
theorem wbb_ne {p q : Bool} {off : Int} (tgt : Nat) (hd : decode (ib f) pc = .ok (.if_icmp .ne off, 3)) (ht : (pc : Int) + off = (tgt : Int)) (kt : ¬ p = q → wp X d f kn tgt ls st Hm Q) (kf : p = q → wp X d f kn (pc + 3) ls st Hm Q) : wp X d f kn pc ls (.int (bI q) :: .int (bI p) :: st) Hm Q :=
  wq_icmp_ne tgt hd ht (fun h => kt (fun e => h (bI_inj.mpr e))) (fun h => kf (bI_inj.mp h))
theorem wz_lt {x : Int32} {off : Int} (tgt : Nat) (hd : decode (ib f) pc = .ok (.ifCond .lt off, 3)) (ht : (pc : Int) + off = (tgt : Int)) (kt : x < nI 0 → wp X d f kn tgt ls st Hm Q) (kf : ¬ x < nI 0 → wp X d f kn (pc + 3) ls st Hm Q) : wp X d f kn pc ls (.int x :: st) Hm Q := wq_if_lt tgt hd ht kt kf
theorem wz_ge {x : Int32} {off : Int} (tgt : Nat) (hd : decode (ib f) pc = .ok (.ifCond .ge off, 3)) (ht : (pc : Int) + off = (tgt : Int)) (kt : ¬ x < nI 0 → wp X d f kn tgt ls st Hm Q) (kf : x < nI 0 → wp X d f kn (pc + 3) ls st Hm Q) : wp X d f kn pc ls (.int x :: st) Hm Q := wq_if_ge tgt hd ht kt kf
theorem wz_gt {x : Int32} {off : Int} (tgt : Nat) (hd : decode (ib f) pc = .ok (.ifCond .gt off, 3)) (ht : (pc : Int) + off = (tgt : Int)) (kt : nI 0 < x → wp X d f kn tgt ls st Hm Q) (kf : ¬ nI 0 < x → wp X d f kn (pc + 3) ls st Hm Q) : wp X d f kn pc ls (.int x :: st) Hm Q := wq_if_gt tgt hd ht kt kf
theorem wz_le {x : Int32} {off : Int} (tgt : Nat) (hd : decode (ib f) pc = .ok (.ifCond .le off, 3)) (ht : (pc : Int) + off = (tgt : Int)) (kt : ¬ nI 0 < x → wp X d f kn tgt ls st Hm Q) (kf : nI 0 < x → wp X d f kn (pc + 3) ls st Hm Q) : wp X d f kn pc ls (.int x :: st) Hm Q := wq_if_le tgt hd ht kt kf
theorem wz_eq {x : Int32} {off : Int} (tgt : Nat) (hd : decode (ib f) pc = .ok (.ifCond .eq off, 3)) (ht : (pc : Int) + off = (tgt : Int)) (kt : x = nI 0 → wp X d f kn tgt ls st Hm Q) (kf : ¬ x = nI 0 → wp X d f kn (pc + 3) ls st Hm Q) : wp X d f kn pc ls (.int x :: st) Hm Q := wq_if_eq tgt hd ht kt kf
theorem wz_ne {x : Int32} {off : Int} (tgt : Nat) (hd : decode (ib f) pc = .ok (.ifCond .ne off, 3)) (ht : (pc : Int) + off = (tgt : Int)) (kt : ¬ x = nI 0 → wp X d f kn tgt ls st Hm Q) (kf : x = nI 0 → wp X d f kn (pc + 3) ls st Hm Q) : wp X d f kn pc ls (.int x :: st) Hm Q := wq_if_ne tgt hd ht kt kf
theorem wr_deref {t : Option Nat} {c : Nat} (h : dT t = some c) (k : wp X d f kn pc ls (.ref c :: st) Hm Q) : wp X d f kn pc ls (rvO t :: st) Hm Q := by
  rw [(dT_some h).1]; exact k
theorem wr_aload_n {n : Fin 4} {i : Nat} {t : Option Nat} (hd : decode (ib f) pc = .ok (.aload_n n, 1)) (hi : (n : Nat) = i) (hl : ls[i]? = some (rvO t)) (k : wp X d f kn (pc + 1) ls (rvO t :: st) Hm Q) : wp X d f kn pc ls st Hm Q := by
  cases t with
  | none => exact wp_aload_nN hd hi hl k
  | some c => exact wp_aload_n hd hi hl k
theorem wr_aload {i : Nat} {t : Option Nat} (hd : decode (ib f) pc = .ok (.aload i, 2)) (hl : ls[i]? = some (rvO t)) (k : wp X d f kn (pc + 2) ls (rvO t :: st) Hm Q) : wp X d f kn pc ls st Hm Q := by
  cases t with
  | none => exact wp_aloadN hd hl k
  | some c => exact wp_aload hd hl k
theorem wr_astore_n {n : Fin 4} {i : Nat} {t : Option Nat} (hd : decode (ib f) pc = .ok (.astore_n n, 1)) (hi : (n : Nat) = i) (hn : i < il f) (k : wp X d f kn (pc + 1) (ls.set i (rvO t)) st Hm Q) : wp X d f kn pc ls (rvO t :: st) Hm Q := by
  cases t with
  | none => exact wp_astore_nN hd hi hn k
  | some c => exact wp_astore_n hd hi hn k
theorem wr_astore {i : Nat} {t : Option Nat} (hd : decode (ib f) pc = .ok (.astore i, 2)) (hn : i < il f) (k : wp X d f kn (pc + 2) (ls.set i (rvO t)) st Hm Q) : wp X d f kn pc ls (rvO t :: st) Hm Q := by
  cases t with
  | none => exact wp_astoreN hd hn k
  | some c => exact wp_astore hd hn k
theorem wr_aret {t : Option Nat} {n : String} (hd : decode (ib f) pc = .ok (.areturn, 1)) (hr : ir f = some (.object n)) (hk : kn = (ic f, is_ f)) (hq : Q (some (rvO t)) Hm) : wp X d f kn pc ls [rvO t] Hm Q := by
  cases t with
  | none => exact wp_aret hd hr (Or.inl rfl) hk hq
  | some c => exact wp_aret hd hr (Or.inr ⟨_, rfl⟩) hk hq
theorem wr_ifnull {t : Option Nat} {off : Int} (tgt : Nat) (hd : decode (ib f) pc = .ok (.ifnull off, 3)) (ht : (pc : Int) + off = (tgt : Int)) (kt : t = none → wp X d f kn tgt ls st Hm Q) (kf : ¬ t = none → wp X d f kn (pc + 3) ls st Hm Q) : wp X d f kn pc ls (rvO t :: st) Hm Q := by
  cases t with
  | none => exact wp_ifnullN tgt hd ht (kt rfl)
  | some c => exact wp_ifnull hd (kf (by simp))
theorem wr_ifnonnull {t : Option Nat} {off : Int} (tgt : Nat) (hd : decode (ib f) pc = .ok (.ifnonnull off, 3)) (ht : (pc : Int) + off = (tgt : Int)) (kt : ¬ t = none → wp X d f kn tgt ls st Hm Q) (kf : t = none → wp X d f kn (pc + 3) ls st Hm Q) : wp X d f kn pc ls (rvO t :: st) Hm Q := by
  cases t with
  | none => exact wp_ifnonnullN hd (kf rfl)
  | some c => exact wp_ifnonnull tgt hd ht (kt (by simp))
theorem wt_in {dflt lo hi : Int} {offs : Array Int} {len k : Nat} {x : Int32} {off : Int} (tgt : Nat) (hk : k < 2147483648) (hx : x = nI k) (hd : decode (ib f) pc = .ok (.tableswitch dflt lo hi offs, len)) (h1 : ¬ (k : Int) < lo) (h2 : ¬ hi < (k : Int)) (ho : offs[((k : Int) - lo).toNat]? = some off) (ht : (pc : Int) + off = (tgt : Int)) (kk : wp X d f kn tgt ls st Hm Q) : wp X d f kn pc ls (.int x :: st) Hm Q := by
  subst hx
  have e := nI_toInt hk
  exact wp_tsIn tgt hd (by rw [e]; exact h1) (by rw [e]; exact h2) (by rw [e]; exact ho) ht kk
theorem wt_out {dflt lo hi : Int} {offs : Array Int} {len : Nat} {x : Int32} (tgt : Nat) (hd : decode (ib f) pc = .ok (.tableswitch dflt lo hi offs, len)) (hlo : 0 ≤ lo ∧ hi < 2147483648) (h : ∀ k : Nat, lo ≤ (k : Int) → (k : Int) ≤ hi → x = nI k → False) (ht : (pc : Int) + dflt = (tgt : Int)) (kk : wp X d f kn tgt ls st Hm Q) : wp X d f kn pc ls (.int x :: st) Hm Q := by
  refine wp_tsOut tgt hd ?_ ht kk
  by_cases a : x.toInt < lo
  · exact Or.inl a
  · by_cases b : hi < x.toInt
    · exact Or.inr b
    · exfalso
      refine h x.toInt.toNat (by omega) (by omega) ?_
      apply Int32.toInt_inj.mp
      rw [nI_toInt (by omega)]
      omega
theorem wt_ls {dflt : Int} {ps : Array (Int × Int)} {len k : Nat} {x : Int32} {off : Int} (tgt : Nat) (hk : k < 2147483648) (hx : x = nI k) (hd : decode (ib f) pc = .ok (.lookupswitch dflt ps, len)) (hp : (ps.toList.zip (ps.toList.drop 1)).all (fun (a, next) => a.1 < next.1) = true) (ho : Op.lookupswitch.offset ps.toList dflt (k : Int) = off) (ht : (pc : Int) + off = (tgt : Int)) (kk : wp X d f kn tgt ls st Hm Q) : wp X d f kn pc ls (.int x :: st) Hm Q := by
  subst hx
  exact wp_ls tgt hd hp (by rw [nI_toInt hk]; exact ho) ht kk
theorem wt_lsd2 {dflt oa ob : Int} {a b : Nat} {len : Nat} {x : Int32} (tgt : Nat) (hA : a < 2147483648) (hB : b < 2147483648) (h1 : ¬ x = nI a) (h2 : ¬ x = nI b) (hd : decode (ib f) pc = .ok (.lookupswitch dflt #[((a : Int), oa), ((b : Int), ob)], len)) (hp : a < b) (ht : (pc : Int) + dflt = (tgt : Int)) (kk : wp X d f kn tgt ls st Hm Q) : wp X d f kn pc ls (.int x :: st) Hm Q := by
  have n1 : ¬ (a : Int) = x.toInt := fun e => h1 (Int32.toInt_inj.mp (by rw [nI_toInt hA]; exact e.symm))
  have n2 : ¬ (b : Int) = x.toInt := fun e => h2 (Int32.toInt_inj.mp (by rw [nI_toInt hB]; exact e.symm))
  refine wp_ls tgt hd ?_ ?_ ht kk
  · simp
    omega
  · show Op.lookupswitch.offset [((a : Int), oa), ((b : Int), ob)] dflt x.toInt = dflt
    rw [Op.lookupswitch.offset_cons, if_neg n1, Op.lookupswitch.offset_cons, if_neg n2, Op.lookupswitch.offset_nil]
end S13
