/-! ===== level two: a world as numbers, and what a day makes of it ===== -/
/-- scalars (0 day, 1 state, 3 wind, 4 heat, 5 came, 6 freed, 7 read), glue, legs, things (7 numbers each), how many, book, its lines -/
abbrev Wd : Type := (Nat → Int32) × (Nat → Int32) × (Nat → Int32) × (Nat → Nat → Int32) × Nat × (Nat → Nat → Int32) × Nat
abbrev wS (W : Wd) : Nat → Int32 := W.1
abbrev wG (W : Wd) : Nat → Int32 := W.2.1
abbrev wL (W : Wd) : Nat → Int32 := W.2.2.1
abbrev wT (W : Wd) : Nat → Nat → Int32 := W.2.2.2.1
abbrev wN (W : Wd) : Nat := W.2.2.2.2.1
abbrev wB (W : Wd) : Nat → Nat → Int32 := W.2.2.2.2.2.1
abbrev wb (W : Wd) : Nat := W.2.2.2.2.2.2
def mkW (S G L : Nat → Int32) (T : Nat → Nat → Int32) (N : Nat) (B : Nat → Nat → Int32) (b : Nat) : Wd := (S, G, L, T, N, B, b)
def wOf (W : Wd) (number : Int32) : Option Nat := fi (fun t => decide (wT W t 0 = number)) (wN W) 0
def wAt (W : Wd) (i : Int32) : Option Nat := fi (fun t => decide (wT W t 4 = i)) (wN W) 0
/-- what a world must be; c bounds how many came -/
def wf (c : Nat) (W : Wd) : Prop :=
  wN W ≤ 20 ∧ wb W ≤ 150 ∧ (∀ t, t < wN W → ∃ i, i < 60 ∧ wT W t 4 = nI i) ∧ (∀ s t, s < wN W → t < wN W → wT W s 4 = wT W t 4 → s = t) ∧
  (∀ s t, s < wN W → t < wN W → wT W s 0 = wT W t 0 → s = t) ∧ (∃ k, k ≤ c ∧ wS W 5 = nI k ∧ ∀ t, t < wN W → ∃ j, j < k ∧ wT W t 0 = nI j) ∧
  (∀ t, t < wN W → ∃ s, 1 ≤ s ∧ s ≤ 9 ∧ wT W t 2 = nI s) ∧ (∀ i, i < 60 → ∃ g, g ≤ 99 ∧ wG W i = nI g)
def wSetS (W : Wd) (k : Nat) (x : Int32) : Wd := mkW (upd (wS W) k x) (wG W) (wL W) (wT W) (wN W) (wB W) (wb W)
def wSetG (W : Wd) (i : Nat) (x : Int32) : Wd := mkW (wS W) (upd (wG W) i x) (wL W) (wT W) (wN W) (wB W) (wb W)
def wSetL (W : Wd) (i : Nat) (x : Int32) : Wd := mkW (wS W) (wG W) (upd (wL W) i x) (wT W) (wN W) (wB W) (wb W)
def upT (T : Nat → Nat → Int32) (t k : Nat) (x : Int32) : Nat → Nat → Int32 := fun s => if s = t then upd (T s) k x else T s
def wSetT (W : Wd) (t k : Nat) (x : Int32) : Wd := mkW (wS W) (wG W) (wL W) (upT (wT W) t k x) (wN W) (wB W) (wb W)
/-- thing t is gone -/
def wDel (W : Wd) (t : Nat) : Wd := mkW (wS W) (wG W) (wL W) (fun s => if s < t then wT W s else wT W (s + 1)) (wN W - 1) (wB W) (wb W)
def nl4 (a b c e : Int32) (k : Nat) : Int32 := if k = 0 then a else if k = 1 then b else if k = 2 then c else e
def wNote (W : Wd) (a b c : Int32) : Wd := if wb W = 150 then W else mkW (wS W) (wG W) (wL W) (wT W) (wN W) (fun j => if j = wb W then nl4 (wS W 0) a b c else wB W j) (wb W + 1)
def wNoteT (th : Bool) (W : Wd) (a b c : Int32) : Wd := if th = true then W else wNote W a b c
/-- the model's row and book hold a world -/
def RM (M : mM) (W : Wd) : Prop :=
  (∀ k, k < 8 → k ≠ 2 → M 313 k = wS W k) ∧ M 313 2 = nI (wb W) ∧ M 313 8 = nI (wN W) ∧ (∀ i, i < 60 → M 313 (10 + i) = wG W i - nI 50) ∧ (∀ i, i < 60 → M 313 (70 + i) = wL W i) ∧
  (∀ t k, t < wN W → k < 7 → M 313 (130 + 7 * t + k) = wT W t k) ∧ (∀ j k, j < wb W → k < 4 → M 316 (4 * j + k) = wB W j k)
theorem RM_S {M : mM} {W : Wd} (h : RM M W) {k : Nat} (h1 : k < 8) (h2 : k ≠ 2) : M 313 k = wS W k := h.1 k h1 h2
theorem RM_b {M : mM} {W : Wd} (h : RM M W) : M 313 2 = nI (wb W) := h.2.1
theorem RM_N {M : mM} {W : Wd} (h : RM M W) : M 313 8 = nI (wN W) := h.2.2.1
theorem RM_G {M : mM} {W : Wd} (h : RM M W) {i : Nat} (h1 : i < 60) : M 313 (10 + i) = wG W i - nI 50 := h.2.2.2.1 i h1
theorem RM_L {M : mM} {W : Wd} (h : RM M W) {i : Nat} (h1 : i < 60) : M 313 (70 + i) = wL W i := h.2.2.2.2.1 i h1
theorem RM_T {M : mM} {W : Wd} (h : RM M W) {t k : Nat} (h1 : t < wN W) (h2 : k < 7) : M 313 (130 + 7 * t + k) = wT W t k := h.2.2.2.2.2.1 t k h1 h2
theorem RM_T0 {M : mM} {W : Wd} (h : RM M W) {t : Nat} (h1 : t < wN W) : M 313 (130 + 7 * t) = wT W t 0 := h.2.2.2.2.2.1 t 0 h1 (by decide)
theorem RM_B {M : mM} {W : Wd} (h : RM M W) {j k : Nat} (h1 : j < wb W) (h2 : k < 4) : M 316 (4 * j + k) = wB W j k := h.2.2.2.2.2.2 j k h1 h2
theorem RM_congr {M M' : mM} {W : Wd} (h1 : M' 313 = M 313) (h2 : M' 316 = M 316) (h : RM M W) : RM M' W := by
  unfold RM at h ⊢
  rw [h1, h2]
  exact h
/-- where the class keeps a scalar: 0 day .. 7 read -/
def cS (k : Nat) : Nat := if k = 0 then 12 else if k = 1 then 6 else if k = 3 then 7 else if k = 4 then 8 else if k = 5 then 9 else if k = 6 then 10 else 11
/-- the row of things is in order: p t is the cell of slot t -/
def TP (w : Nat) (M : mM) (p : Nat → Nat) : Prop := ∀ t, t < 20 → (w + 7 ≤ p t ∧ p t < w + 27) ∧ M (w + 4) t = nI (p t) ∧ ∀ s, s < 20 → p s = p t → s = t
def numAt (W : Wd) (i : Nat) : Int32 := match wAt W (nI i) with
  | some t => wT W t 0
  | none => -1
/-- the class's World at cell w holds a world (th: but for its book) -/
def CW (th : Bool) (w : Nat) (M : mM) (p : Nat → Nat) (W : Wd) : Prop :=
  (TP w M p ∧ wN W ≤ 20) ∧ (∀ k, k < 8 → k ≠ 2 → M w (cS k) = wS W k) ∧ M w 5 = nI (wN W) ∧ (∀ i, i < 60 → M (w + 1) i = wG W i) ∧ (∀ i, i < 60 → M (w + 2) i = wL W i) ∧ (∀ i, i < 60 → M (w + 3) i = numAt W i) ∧
  (∀ t k, t < wN W → k < 7 → M (p t) k = wT W t k) ∧
  (∃ b, b ≤ 150 ∧ M (w + 5) 3 = nI b) ∧ (th = false → M (w + 5) 3 = nI (wb W) ∧ ∀ j k, j < wb W → k < 4 → M (w + 6) (4 * j + k) = wB W j k)
/-- cells of a world at w -/
def inW (w c : Nat) : Prop := w ≤ c ∧ c < w + 27
theorem CW_congr {th : Bool} {w : Nat} {M M' : mM} {p : Nat → Nat} {W : Wd} (h : CW th w M p W) (e : ∀ c, inW w c → M' c = M c) : CW th w M' p W := by
  obtain ⟨h1, h2, h3, h4, h5, h6, h7, h8, h9⟩ := h
  have e0 := e w ⟨by omega, by omega⟩
  have e1 := e (w + 1) ⟨by omega, by omega⟩
  have e2 := e (w + 2) ⟨by omega, by omega⟩
  have e3 := e (w + 3) ⟨by omega, by omega⟩
  have e4 := e (w + 4) ⟨by omega, by omega⟩
  have e5 := e (w + 5) ⟨by omega, by omega⟩
  have e6 := e (w + 6) ⟨by omega, by omega⟩
  obtain ⟨h1, hN⟩ := h1
  unfold CW TP
  rw [e0, e1, e2, e3, e4, e5, e6]
  refine ⟨⟨h1, hN⟩, h2, h3, h4, h5, h6, fun t k ht hk => ?_, h8, h9⟩
  have h10 := (h1 t (by omega)).1
  rw [e (p t) ⟨by omega, by omega⟩]
  exact h7 t k ht hk
section S21
variable {th : Bool} {w : Nat} {M : mM} {p : Nat → Nat} {W : Wd} {c : Nat}
theorem CW_P (h : CW th w M p W) : TP w M p := h.1.1
theorem CW_20 (h : CW th w M p W) : wN W ≤ 20 := h.1.2
theorem CW_S (h : CW th w M p W) {k : Nat} (h1 : k < 8) (h2 : k ≠ 2) : M w (cS k) = wS W k := h.2.1 k h1 h2
theorem CW_N (h : CW th w M p W) : M w 5 = nI (wN W) := h.2.2.1
theorem CW_G (h : CW th w M p W) {i : Nat} (h1 : i < 60) : M (w + 1) i = wG W i := h.2.2.2.1 i h1
theorem CW_L (h : CW th w M p W) {i : Nat} (h1 : i < 60) : M (w + 2) i = wL W i := h.2.2.2.2.1 i h1
theorem CW_A (h : CW th w M p W) {i : Nat} (h1 : i < 60) : M (w + 3) i = numAt W i := h.2.2.2.2.2.1 i h1
theorem CW_T (h : CW th w M p W) {t k : Nat} (h1 : t < wN W) (h2 : k < 7) : M (p t) k = wT W t k := h.2.2.2.2.2.2.1 t k h1 h2
theorem CW_b (h : CW th w M p W) : ∃ b, b ≤ 150 ∧ M (w + 5) 3 = nI b := h.2.2.2.2.2.2.2.1
theorem CW_B (h : CW false w M p W) : M (w + 5) 3 = nI (wb W) ∧ ∀ j k, j < wb W → k < 4 → M (w + 6) (4 * j + k) = wB W j k := h.2.2.2.2.2.2.2.2 rfl
theorem CW_th (h : CW false w M p W) : CW true w M p W := ⟨h.1, h.2.1, h.2.2.1, h.2.2.2.1, h.2.2.2.2.1, h.2.2.2.2.2.1, h.2.2.2.2.2.2.1, h.2.2.2.2.2.2.2.1, fun e => absurd e (by decide)⟩
theorem wf_20 (h : wf c W) : wN W ≤ 20 := h.1
theorem wf_150 (h : wf c W) : wb W ≤ 150 := h.2.1
theorem wf_at (h : wf c W) {t : Nat} (ht : t < wN W) : ∃ i, i < 60 ∧ wT W t 4 = nI i := h.2.2.1 t ht
theorem wf_atU (h : wf c W) {s t : Nat} (hs : s < wN W) (ht : t < wN W) (e : wT W s 4 = wT W t 4) : s = t := h.2.2.2.1 s t hs ht e
theorem wf_noU (h : wf c W) {s t : Nat} (hs : s < wN W) (ht : t < wN W) (e : wT W s 0 = wT W t 0) : s = t := h.2.2.2.2.1 s t hs ht e
theorem wf_came (h : wf c W) : ∃ k, k ≤ c ∧ wS W 5 = nI k ∧ ∀ t, t < wN W → ∃ j, j < k ∧ wT W t 0 = nI j := h.2.2.2.2.2.1
theorem wf_size (h : wf c W) {t : Nat} (ht : t < wN W) : ∃ s, 1 ≤ s ∧ s ≤ 9 ∧ wT W t 2 = nI s := h.2.2.2.2.2.2.1 t ht
theorem wf_glue (h : wf c W) {i : Nat} (hi : i < 60) : ∃ g, g ≤ 99 ∧ wG W i = nI g := h.2.2.2.2.2.2.2 i hi
theorem wf_no (h : wf c W) (hc : c < 2147483648) {t : Nat} (ht : t < wN W) : ∃ j, j < 2147483648 ∧ wT W t 0 = nI j := by
  obtain ⟨k, h1, h2, h3⟩ := wf_came h
  obtain ⟨j, h4, h5⟩ := h3 t ht
  exact ⟨j, by omega, h5⟩
theorem wf_mono {c' : Nat} (h : wf c W) (hc : c ≤ c') : wf c' W := by
  obtain ⟨h1, h2, h3, h4, h5, ⟨k, h6, h7⟩, h8⟩ := h
  exact ⟨h1, h2, h3, h4, h5, ⟨k, by omega, h7⟩, h8⟩
/-- an inch, or no inch -/
theorem inch_c (x : Int32) : (∃ i, i < 60 ∧ x = nI i) ∨ ¬ (¬ x < nI 0 ∧ x < nI 60) := by
  by_cases h : ¬ x < nI 0 ∧ x < nI 60
  · refine Or.inl ?_
    obtain ⟨h1, h2⟩ := h
    rw [Int32.lt_iff_toInt_lt, nI_toInt (by omega)] at h1 h2
    refine ⟨x.toInt.toNat, by omega, ?_⟩
    apply Int32.toInt_inj.mp
    rw [nI_toInt (by omega)]
    omega
  · exact Or.inr h
theorem inch_k {i : Nat} (h : i < 60) : ¬ nI i < nI 0 ∧ nI i < nI 60 := by
  rw [nlt (by omega) (by omega), nlt (by omega) (by omega)]
  omega
theorem wAt_out (hf : wf c W) {x : Int32} (h : ¬ (¬ x < nI 0 ∧ x < nI 60)) : wAt W x = none := by
  refine fi_no (fun t ht => decide_eq_false (fun e => ?_))
  obtain ⟨i, hi, e2⟩ := wf_at hf ht
  rw [e] at e2
  rw [e2] at h
  exact h (inch_k hi)
theorem wAt_some {x : Int32} {t : Nat} (h : wAt W x = some t) : t < wN W ∧ wT W t 4 = x := by
  obtain ⟨-, h2, h3, -⟩ := fi_some h
  exact ⟨by omega, of_decide_eq_true h3⟩
theorem wAt_of (hf : wf c W) {t : Nat} {x : Int32} (ht : t < wN W) (e : wT W t 4 = x) : wAt W x = some t :=
  fi_of ht (decide_eq_true e) (fun j hj h => wf_atU hf hj ht ((of_decide_eq_true h).trans e.symm))
theorem wAt_none {x : Int32} (h : wAt W x = none) {t : Nat} (ht : t < wN W) : wT W t 4 ≠ x := fun e => by
  have := fi_none h t (Nat.zero_le _) (by omega)
  rw [decide_eq_true e] at this
  cases this
theorem wOf_some {x : Int32} {t : Nat} (h : wOf W x = some t) : t < wN W ∧ wT W t 0 = x := by
  obtain ⟨-, h2, h3, -⟩ := fi_some h
  exact ⟨by omega, of_decide_eq_true h3⟩
theorem wOf_of (hf : wf c W) {t : Nat} {x : Int32} (ht : t < wN W) (e : wT W t 0 = x) : wOf W x = some t :=
  fi_of ht (decide_eq_true e) (fun j hj h => wf_noU hf hj ht ((of_decide_eq_true h).trans e.symm))
theorem isTh_of (hw : isW w) {k : Nat} (h1 : w + 7 ≤ k) (h2 : k < w + 27) : isTh k = true := by
  unfold isTh
  rw [shWt hw h1 h2]
  rfl
theorem isW_lt (hw : isW w) : w ≤ 285 := by
  unfold isW at hw
  simp only [List.mem_cons, List.not_mem_nil, or_false] at hw
  omega
theorem rT_ok (hw : isW w) (hT : TP w M p) {t : Nat} (ht : t < 20) : rT M (w + 4) 20 (nI t) = some (p t) := by
  obtain ⟨⟨h1, h2⟩, h3, -⟩ := hT t ht
  have hl := isW_lt hw
  unfold rT
  rw [nI_clamp (by omega), h3, nI_clamp (by omega), if_pos ⟨inb_nI ht (by omega), nI_pos (by omega), isTh_of hw h1 h2⟩]
end S21
