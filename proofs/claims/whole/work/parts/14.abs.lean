/-! ===== a world as numbers: scalars, glue, legs, things, how many, book, how many lines ===== -/
abbrev Wd : Type := (Nat → Int32) × (Nat → Int32) × (Nat → Int32) × (Nat → Nat → Int32) × Nat × (Nat → Nat → Int32) × Nat
abbrev wS (w : Wd) : Nat → Int32 := w.1
abbrev wG (w : Wd) : Nat → Int32 := w.2.1
abbrev wL (w : Wd) : Nat → Int32 := w.2.2.1
abbrev wT (w : Wd) : Nat → Nat → Int32 := w.2.2.2.1
abbrev wN (w : Wd) : Nat := w.2.2.2.2.1
abbrev wB (w : Wd) : Nat → Nat → Int32 := w.2.2.2.2.2.1
abbrev wb (w : Wd) : Nat := w.2.2.2.2.2.2
def wA (w : Wd) (t : Nat) : Nat := (wT w t 4).toNatClampNeg
/-- the model's rows hold a world -/
def RM (M : mM) (w : Wd) : Prop :=
  (∀ k, k < 8 → k ≠ 2 → M 313 k = wS w k) ∧ M 313 2 = nI (wb w) ∧ M 313 8 = nI (wN w) ∧ (∀ i, i < 60 → M 313 (10 + i) = wG w i - nI 50) ∧ (∀ i, i < 60 → M 313 (70 + i) = wL w i) ∧
  (∀ t k, t < wN w → k < 7 → M 313 (130 + 7 * t + k) = wT w t k) ∧ (∀ j k, j < wb w → k < 4 → M 316 (4 * j + k) = wB w j k)
theorem RM_S {M : mM} {w : Wd} (h : RM M w) {k : Nat} (h1 : k < 8) (h2 : k ≠ 2) : M 313 k = wS w k := h.1 k h1 h2
theorem RM_b {M : mM} {w : Wd} (h : RM M w) : M 313 2 = nI (wb w) := h.2.1
theorem RM_N {M : mM} {w : Wd} (h : RM M w) : M 313 8 = nI (wN w) := h.2.2.1
theorem RM_G {M : mM} {w : Wd} (h : RM M w) {i : Nat} (h1 : i < 60) : M 313 (10 + i) = wG w i - nI 50 := h.2.2.2.1 i h1
theorem RM_L {M : mM} {w : Wd} (h : RM M w) {i : Nat} (h1 : i < 60) : M 313 (70 + i) = wL w i := h.2.2.2.2.1 i h1
theorem RM_T {M : mM} {w : Wd} (h : RM M w) {t k : Nat} (h1 : t < wN w) (h2 : k < 7) : M 313 (130 + 7 * t + k) = wT w t k := h.2.2.2.2.2.1 t k h1 h2
theorem RM_T0 {M : mM} {w : Wd} (h : RM M w) {t : Nat} (h1 : t < wN w) : M 313 (130 + 7 * t) = wT w t 0 := h.2.2.2.2.2.1 t 0 h1 (by decide)
theorem RM_B {M : mM} {w : Wd} (h : RM M w) {j k : Nat} (h1 : j < wb w) (h2 : k < 4) : M 316 (4 * j + k) = wB w j k := h.2.2.2.2.2.2 j k h1 h2
theorem RM_congr {M M' : mM} {w : Wd} (h1 : M' 313 = M 313) (h2 : M' 316 = M 316) (h : RM M w) : RM M' w := by
  unfold RM at h ⊢
  rw [h1, h2]
  exact h
/-- what a world must be: few things, at inches, apart, by unlike numbers -/
def wf (w : Wd) : Prop := wN w ≤ 20 ∧ wb w ≤ 150 ∧ (∀ t, t < wN w → wA w t < 60 ∧ wT w t 4 = nI (wA w t)) ∧ (∀ s t, s < wN w → t < wN w → wT w s 4 = wT w t 4 → s = t) ∧
  (∀ s t, s < wN w → t < wN w → wT w s 0 = wT w t 0 → s = t) ∧ (∀ t, t < wN w → 0 ≤ wT w t 0 ∧ wT w t 0 < wS w 5)
def wOf (w : Wd) (number : Int32) : Option Nat := fi (fun t => wT w t 0 == number) (wN w) 0
def wAt (w : Wd) (i : Int32) : Option Nat := fi (fun t => wT w t 4 == i) (wN w) 0
def clp (v a b : Int32) : Int32 := if v < a then a else if b < v then b else v
def iMax (a b : Int32) : Int32 := if b < a then a else b
def iMin (a b : Int32) : Int32 := if a < b then a else b
def iApart (a b : Int32) : Int32 := if b < a then a - b else b - a
def iAdded (a b : Int32) : Int32 := if a < 1000000007 - b then a + b else a - (1000000007 - b)
def iHas (s k : Int32) : Bool := s >>> (k &&& 31) &&& nI 1 == nI 1
/-- a sum of n numbers from t on -/
def sm (g : Nat → Int32) : Nat → Nat → Int32 → Int32
  | 0, _, a => a
  | n + 1, t, a => sm g n (t + 1) (a + g t)
def nearN (w : Wd) (i : Int32) : Nat → Nat → Int32 → Int32
  | 0, _, a => a
  | n + 1, t, a => nearN w i n (t + 1) (if iApart (wT w t 4) i = nI 1 ∨ iApart (wT w t 4) i = nI 10 then a + nI 1 else a)
def wNear (w : Wd) (i : Int32) : Int32 := nearN w i (wN w) 0 (nI 0)
/-- nothing but these cells is changed -/
def Fr (S : List Nat) (M M' : mM) : Prop := ∀ c, c ∉ S → M' c = M c
theorem Fr_rf (S : List Nat) (M : mM) : Fr S M M := fun _ _ => rfl
theorem Fr_up {S : List Nat} {M M' : mM} {c j : Nat} {x : Int32} (h : Fr S M M') (hc : c ∈ S) : Fr S M (up M' c j x) := by
  intro c' h'
  have : c' ≠ c := fun e => h' (e ▸ hc)
  show upR M' c _ c' = M c'
  rw [upR_ne _ _ this]
  exact h c' h'
theorem Fr_tr {S S' : List Nat} {M M' M'' : mM} (h : Fr S M M') (h' : Fr S' M' M'') (hs : ∀ c ∈ S, c ∈ S') : Fr S' M M'' := fun c hc => (h' c hc).trans (h c (fun e => hc (hs c e)))
theorem Fr_wk {S S' : List Nat} {M M' : mM} (h : Fr S M M') (hs : ∀ c ∈ S, c ∈ S') : Fr S' M M' := fun c hc => h c (fun e => hc (hs c e))
def wSetG (w : Wd) (i : Nat) (x : Int32) : Wd := (w.1, upd w.2.1 i x, w.2.2)
def wSetS (w : Wd) (k : Nat) (x : Int32) : Wd := (upd w.1 k x, w.2)
def wSetT (w : Wd) (t k : Nat) (x : Int32) : Wd := (w.1, w.2.1, w.2.2.1, fun s => if s = t then upd (wT w t) k x else wT w s, w.2.2.2.2)
/-- thing t is gone -/
def wDel (w : Wd) (t : Nat) : Wd := (w.1, w.2.1, w.2.2.1, fun s => if s < t then wT w s else wT w (s + 1), wN w - 1, w.2.2.2.2.2)
def wNote (w : Wd) (a b c : Int32) : Wd := if wb w = 150 then w else (w.1, w.2.1, w.2.2.1, w.2.2.2.1, wN w, fun j => if j = wb w then (fun k => match k with | 0 => wS w 0 | 1 => a | 2 => b | _ => c) else wB w j, wb w + 1)
