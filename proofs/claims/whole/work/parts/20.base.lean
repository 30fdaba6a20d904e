/-! ===== level two, base: numbers, rows, loops that fill ===== -/
section S20
theorem inb_nI {n k : Nat} (h : k < n) (hn : n ≤ 5000) : inb n (nI k) = true := by
  unfold inb
  rw [nI_clamp (by omega), Bool.and_eq_true, Bool.not_eq_true', decide_eq_false_iff_not, decide_eq_true_eq]
  exact ⟨nI_pos (by omega), h⟩
theorem ra_ok {M : mM} {c n k : Nat} (h : k < n) (hn : n ≤ 5000) : ra M c n (nI k) = some (M c k) := by
  unfold ra
  rw [if_pos (inb_nI h hn), nI_clamp (by omega)]
theorem wa_ok {M : mM} {c n k : Nat} {x : Int32} (h : k < n) (hn : n ≤ 5000) : wa M c n (nI k) x = some (up M c k x) := by
  unfold wa
  rw [if_pos (inb_nI h hn), nI_clamp (by omega)]
theorem rxs_ok {g : Nat → Int32} {n k : Nat} (h : k < n) (hn : n ≤ 5000) : rxs g n (nI k) = some (g k) := by
  unfold rxs
  rw [if_pos (inb_nI h hn), nI_clamp (by omega)]
theorem nlt {a b : Nat} (ha : a < 2147483648) (hb : b < 2147483648) : (nI a < nI b) = (a < b) := propext (nI_lt' ha hb)
theorem neq {a b : Nat} (ha : a < 2147483648) (hb : b < 2147483648) : (nI a = nI b) = (a = b) := propext (nI_inj ha hb)
theorem lT {a b : Nat} (h : a < b) (hb : b < 2147483648) : nI a < nI b := nI_lt h hb
theorem lF {a b : Nat} (h : b ≤ a) (ha : a < 2147483648) : ¬ nI a < nI b := nI_nlt h ha
theorem eF {a b : Nat} (h : a ≠ b) (ha : a < 2147483648) (hb : b < 2147483648) : ¬ nI a = nI b := fun e => h ((nI_inj ha hb).mp e)
theorem mF {a : Nat} (ha : a < 2147483648) : ¬ nI a = (-1 : Int32) := fun h => by
  have h1 := nI_pos' (n := a) (by omega)
  rw [h] at h1
  exact absurd h1 (by decide)
theorem nnon {a : Nat} (ha : a < 2147483648) : (nI a = (-1 : Int32)) = False := by
  refine eq_false (fun h => ?_)
  have h1 := nI_pos' (n := a) (by omega)
  rw [h] at h1
  exact absurd h1 (by decide)
theorem nonn {a : Nat} (ha : a < 2147483648) : ((-1 : Int32) = nI a) = False := by
  refine eq_false (fun h => ?_)
  have h1 := nnon ha
  rw [h] at h1
  exact h1 ▸ rfl
theorem nle {a b : Nat} (ha : a < 2147483648) (hb : b < 2147483648) : (nI a ≤ nI b) = (a ≤ b) := propext (nI_le' ha hb)
theorem nsb {a b : Nat} (h : b ≤ a) : nI a - nI b = nI (a - b) := nsub h
theorem zsub {a b : Int32} : a - b + b = a := Int32.sub_add_cancel a b
theorem dec_t {p : Prop} {i : Decidable p} (h : p) : @decide p i = true := decide_eq_true h
theorem dec_f {p : Prop} {i : Decidable p} (h : ¬ p) : @decide p i = false := decide_eq_false h
theorem jn_eq {A B : Type} {a : A} {f : A → B} : jn a f = f a := rfl
theorem ob1_id {A : Type} {x : Option A} : (ob1 x fun v => some v) = x := by cases x <;> rfl
theorem ob2_id {A B : Type} {x : Option (A × B)} : (ob2 x fun a b => some (a, b)) = x := by cases x <;> rfl
theorem ib_t : (true = true) = True := eq_self true
theorem ib_f : (false = true) = False := by simp
/-- a number between -/
def rg (v a b : Int32) : Bool := decide (¬ v < a ∧ ¬ b < v)
theorem rg_t {v : Int32} {a b : Nat} (ha : a < 2147483648) (hb : b < 2147483648) (h : rg v (nI a) (nI b) = true) : ∃ k, a ≤ k ∧ k ≤ b ∧ v = nI k := by
  have h1 := of_decide_eq_true h
  obtain ⟨h2, h3⟩ := h1
  rw [Int32.lt_iff_toInt_lt, nI_toInt (by omega)] at h2 h3
  refine ⟨v.toInt.toNat, by omega, by omega, ?_⟩
  apply Int32.toInt_inj.mp
  rw [nI_toInt (by omega)]
  omega
theorem rg_k {a b k : Nat} (hb : b < 2147483648) (h1 : a ≤ k) (h2 : k ≤ b) : rg (nI k) (nI a) (nI b) = true := by
  unfold rg
  rw [decide_eq_true_eq, nI_lt' (by omega) (by omega), nI_lt' (by omega) (by omega)]
  omega
theorem rg_c (v : Int32) (a b : Nat) (ha : a < 2147483648) (hb : b < 2147483648) : (∃ k, a ≤ k ∧ k ≤ b ∧ v = nI k) ∨ rg v (nI a) (nI b) = false := by
  cases h : rg v (nI a) (nI b) with
  | true => exact Or.inl (rg_t ha hb h)
  | false => exact Or.inr rfl
/-! a row filled from k to b -/
def fil (M : mM) (c k b : Nat) (g : Nat → Int32) : mM := upR M c (fun j => if k ≤ j ∧ j < b then g j else M c j)
theorem fil_at {M : mM} {c k b : Nat} {g : Nat → Int32} {j : Nat} : fil M c k b g c j = if k ≤ j ∧ j < b then g j else M c j := by
  unfold fil
  rw [upR_same]
theorem fil_ne {M : mM} {c k b : Nat} {g : Nat → Int32} {c' : Nat} (h : c' ≠ c) : fil M c k b g c' = M c' := upR_ne _ _ h
theorem upR_self (M : mM) (c : Nat) : upR M c (M c) = M := by
  funext c'
  unfold upR
  by_cases h : c' = c
  · rw [if_pos h, h]
  · rw [if_neg h]
theorem fil_end {M : mM} {c k b : Nat} {g : Nat → Int32} (h : b ≤ k) : fil M c k b g = M := by
  unfold fil
  have e : (fun j => if k ≤ j ∧ j < b then g j else M c j) = M c := by
    funext j
    rw [if_neg (by omega)]
  rw [e]
  exact upR_self M c
theorem fil_step {M : mM} {c k b : Nat} {g g' : Nat → Int32} (h : k < b) (hg : ∀ j, k < j → j < b → g' j = g j) : fil (up M c k (g k)) c (k + 1) b g' = fil M c k b g := by
  funext c'
  unfold fil up upR
  by_cases hc : c' = c
  · subst hc
    simp only [↓reduceIte]
    funext j
    by_cases h1 : k + 1 ≤ j ∧ j < b
    · have h2 : k ≤ j ∧ j < b := ⟨by omega, h1.2⟩
      simp only [h1, h2, and_self, ↓reduceIte]
      exact hg j (by omega) h1.2
    · by_cases h2 : j = k
      · subst h2
        have h3 : j ≤ j ∧ j < b := ⟨Nat.le_refl _, h⟩
        rw [if_neg h1, if_pos h3, upd, if_pos rfl]
      · have h3 : ¬ (k ≤ j ∧ j < b) := by omega
        simp only [h1, h2, h3, ↓reduceIte, upd]
  · rw [if_neg hc, if_neg hc, if_neg hc]
/-- what has changed lies in these cells -/
def Fr (S : List Nat) (M M' : mM) : Prop := ∀ c, c ∉ S → M' c = M c
theorem Fr_rf (S : List Nat) (M : mM) : Fr S M M := fun _ _ => rfl
theorem Fr_up {S : List Nat} {M M' : mM} {c j : Nat} {x : Int32} (h : Fr S M M') (hc : c ∈ S) : Fr S M (up M' c j x) := by
  intro c' h'
  have e : c' ≠ c := fun e => h' (e ▸ hc)
  rw [up, upR_ne _ _ e]
  exact h c' h'
theorem Fr_upR {S : List Nat} {M M' : mM} {c : Nat} {g : Nat → Int32} (h : Fr S M M') (hc : c ∈ S) : Fr S M (upR M' c g) := by
  intro c' h'
  have e : c' ≠ c := fun e => h' (e ▸ hc)
  rw [upR_ne _ _ e]
  exact h c' h'
theorem Fr_tr {S : List Nat} {M M' M'' : mM} (h : Fr S M M') (h' : Fr S M' M'') : Fr S M M'' := fun c hc => (h' c hc).trans (h c hc)
theorem Fr_wk {S S' : List Nat} {M M' : mM} (h : Fr S M M') (hs : ∀ c, c ∈ S → c ∈ S') : Fr S' M M' := fun c hc => h c (fun e => hc (hs c e))
/-- the first place, of n from t on, at which p holds -/
theorem fi_some {p : Nat → Bool} : ∀ {n t k : Nat}, fi p n t = some k → t ≤ k ∧ k < t + n ∧ p k = true ∧ ∀ j, t ≤ j → j < k → p j = false := by
  intro n
  induction n with
  | zero => intro t k h; cases h
  | succ n ih =>
    intro t k h
    rw [fi] at h
    by_cases hp : p t = true
    · rw [if_pos hp] at h
      cases h
      exact ⟨Nat.le_refl _, by omega, hp, fun j h1 h2 => absurd h1 (by omega)⟩
    · rw [if_neg hp] at h
      obtain ⟨h1, h2, h3, h4⟩ := ih h
      refine ⟨by omega, by omega, h3, fun j a b => ?_⟩
      by_cases hj : j = t
      · subst hj
        exact Bool.not_eq_true _ ▸ hp
      · exact h4 j (by omega) b
theorem fi_none {p : Nat → Bool} : ∀ {n t : Nat}, fi p n t = none → ∀ j, t ≤ j → j < t + n → p j = false := by
  intro n
  induction n with
  | zero => intro t _ j h1 h2; omega
  | succ n ih =>
    intro t h j h1 h2
    rw [fi] at h
    by_cases hp : p t = true
    · rw [if_pos hp] at h
      cases h
    · rw [if_neg hp] at h
      by_cases hj : j = t
      · subst hj
        exact Bool.not_eq_true _ ▸ hp
      · exact ih h j (by omega) (by omega)
theorem fi_of {p : Nat → Bool} {n k : Nat} (h1 : k < n) (h2 : p k = true) (h3 : ∀ j, j < n → p j = true → j = k) : fi p n 0 = some k := by
  cases h : fi p n 0 with
  | none =>
    have := fi_none h k (Nat.zero_le _) (by omega)
    rw [h2] at this
    cases this
  | some j =>
    obtain ⟨a, b, c, -⟩ := fi_some h
    rw [h3 j (by omega) c]
theorem fi_no {p : Nat → Bool} {n : Nat} (h : ∀ j, j < n → p j = false) : fi p n 0 = none := by
  cases e : fi p n 0 with
  | none => rfl
  | some j =>
    obtain ⟨a, b, c, -⟩ := fi_some e
    rw [h j (by omega)] at c
    cases c
theorem fi_cg {p q : Nat → Bool} : ∀ {n t : Nat}, (∀ j, t ≤ j → j < t + n → p j = q j) → fi p n t = fi q n t := by
  intro n
  induction n with
  | zero => intro t _; rfl
  | succ n ih =>
    intro t h
    rw [fi, fi, h t (Nat.le_refl _) (by omega), ih (fun j a b => h j (by omega) (by omega))]
end S20
