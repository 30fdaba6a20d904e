/-! ===== how many lie next to an inch: both ways ===== -/
section S24
variable {z : Nat} {M : mM} {W : Wd} {c : Nat}
def cnt (f : Nat → Bool) : Nat → Nat → Nat → Nat
  | 0, _, a => a
  | m + 1, t, a => cnt f m (t + 1) (a + (f t).toNat)
theorem cnt_one {f : Nat → Bool} : ∀ (m t a : Nat), (∀ i j, t ≤ i → i < t + m → t ≤ j → j < t + m → f i = true → f j = true → i = j) → cnt f m t a = a + (fi f m t).isSome.toNat := by
  intro m
  induction m with
  | zero => intro t a _; rfl
  | succ m ih =>
    intro t a h
    rw [cnt, ih (t + 1) _ (fun i j h1 h2 h3 h4 => h i j (by omega) (by omega) (by omega) (by omega)), fi]
    cases hf : f t with
    | false => simp
    | true =>
      have e : fi f m (t + 1) = none := by
        cases e : fi f m (t + 1) with
        | none => rfl
        | some k =>
          obtain ⟨h1, h2, h3, -⟩ := fi_some e
          exact absurd (h t k (by omega) (by omega) (by omega) (by omega) hf h3) (by omega)
      rw [e]
      simp
theorem cnt_sum {f f1 f2 f3 f4 : Nat → Bool} : ∀ (m t a1 a2 a3 a4 : Nat), (∀ i, t ≤ i → i < t + m → (f i).toNat = (f1 i).toNat + (f2 i).toNat + (f3 i).toNat + (f4 i).toNat) → cnt f m t (a1 + a2 + a3 + a4) = cnt f1 m t a1 + cnt f2 m t a2 + cnt f3 m t a3 + cnt f4 m t a4 := by
  intro m
  induction m with
  | zero => intro t a1 a2 a3 a4 _; rfl
  | succ m ih =>
    intro t a1 a2 a3 a4 h
    rw [cnt, cnt, cnt, cnt, cnt, ← ih (t + 1) _ _ _ _ (fun i h1 h2 => h i (by omega) (by omega)), h t (by omega) (by omega)]
    congr 1
    omega
theorem nrN_cnt (i : Int32) : ∀ (m t a : Nat), nrN W i m t a = cnt (fun t => decide (apt (wT W t 4) i = nI 1 ∨ apt (wT W t 4) i = nI 10)) m t a := by
  intro m
  induction m with
  | zero => intro t a; rfl
  | succ m ih =>
    intro t a
    rw [nrN, cnt, ih]
    congr 1
    by_cases h : apt (wT W t 4) i = nI 1 ∨ apt (wT W t 4) i = nI 10
    · rw [if_pos h, decide_eq_true h]; rfl
    · rw [if_neg h, decide_eq_false h]; rfl
theorem eq_sub {a b k : Int32} : a = b - k ↔ a + k = b := by
  constructor
  · intro h; rw [h]; exact Int32.sub_add_cancel b k
  · intro h; rw [← h]; exact (Int32.add_sub_cancel a k).symm
theorem b2_nat (b : Bool) : b2 b = nI b.toNat := by cases b <;> rfl
theorem nr_eq (hf : wf c W) {i : Nat} (hi : i < 60) : nI (nrN W (nI i) (wN W) 0 0) = wNr W (nI i) := by
  have h20 := wf_20 hf
  have one : ∀ x : Int32, cnt (fun t => decide (wT W t 4 = x)) (wN W) 0 0 = (wAt W x).isSome.toNat := by
    intro x
    rw [cnt_one (wN W) 0 0 (fun s t _ h2 _ h4 a b => wf_atU hf (by omega) (by omega) ((of_decide_eq_true a).trans (of_decide_eq_true b).symm)), Nat.zero_add]
    rfl
  rw [nrN_cnt, cnt_sum (f1 := fun t => decide (wT W t 4 = nI i - nI 1)) (f2 := fun t => decide (wT W t 4 = nI i + nI 1)) (f3 := fun t => decide (wT W t 4 = nI i - nI 10)) (f4 := fun t => decide (wT W t 4 = nI i + nI 10)) (wN W) 0 0 0 0 0 (fun t _ ht => ?_), one, one, one, one]
  · unfold wNr
    simp only [b2_nat, nadd]
  · obtain ⟨j, hj, e⟩ := wf_at hf (t := t) (by omega)
    have h1 : (apt (nI j) (nI i) = nI 1 ∨ apt (nI j) (nI i) = nI 10) = (j + 1 = i ∨ j = i + 1 ∨ j + 10 = i ∨ j = i + 10) := by
      unfold apt
      by_cases h : i < j
      · rw [if_pos (lT h (by omega)), nsb (by omega), neq (by omega) (by omega), neq (by omega) (by omega)]
        exact propext (by omega)
      · rw [if_neg (lF (by omega) (by omega)), nsb (by omega), neq (by omega) (by omega), neq (by omega) (by omega)]
        exact propext (by omega)
    have h2 : (nI j = nI i - nI 1) = (j + 1 = i) := by rw [propext eq_sub, nadd, neq (by omega) (by omega)]
    have h3 : (nI j = nI i + nI 1) = (j = i + 1) := by rw [nadd, neq (by omega) (by omega)]
    have h4 : (nI j = nI i - nI 10) = (j + 10 = i) := by rw [propext eq_sub, nadd, neq (by omega) (by omega)]
    have h5 : (nI j = nI i + nI 10) = (j = i + 10) := by rw [nadd, neq (by omega) (by omega)]
    simp only [e, h1, h2, h3, h4, h5]
    by_cases a1 : j + 1 = i
    · simp [a1, show ¬ j = i + 1 by omega, show ¬ j + 10 = i by omega, show ¬ j = i + 10 by omega]
    · by_cases a2 : j = i + 1
      · simp [a1, a2, show ¬ i + 1 + 1 = i by omega, show ¬ i + 1 + 10 = i by omega, show ¬ i + 1 = i + 10 by omega]
      · by_cases a3 : j + 10 = i
        · simp [a1, a2, a3, show ¬ j = i + 10 by omega]
        · by_cases a4 : j = i + 10
          · simp [a1, a2, a3, a4, show ¬ i + 10 + 1 = i by omega, show ¬ i + 10 + 10 = i by omega]
          · simp [a1, a2, a3, a4]
theorem mm_nearTo (hz : 100 ≤ z) (hR : RM M W) (hf : wf c W) {i : Nat} (hi : i < 60) : F_Mod_nearTo z (nI i) M = some (wNr W (nI i)) := by
  have h20 := wf_20 hf
  unfold F_Mod_nearTo
  have h := l_mNear (z := z) hR h20 (i := nI i) (wN W) 0 z 0 (by omega) (by omega)
  rw [show nI 0 = nI 0 from rfl, h, ob1_ok, nr_eq hf hi]
end S24
