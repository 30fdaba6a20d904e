/-! ===== what lies under what: closures of masks, no memory yet ===== -/
section S70
variable {A : Nat → Nat}
/-- t is reached from s: in every closed set that holds what lies under s -/
def Rch (A : Nat → Nat) (s t : Nat) : Prop := ∀ S : Nat → Bool, (∀ k, k < 12 → (A s).testBit k = true → S k = true) → (∀ k j, k < 12 → j < 12 → S k = true → (A k).testBit j = true → S j = true) → S t = true
def wY (A : Nat → Nat) : Nat → Nat → Nat
  | 0 => A
  | b + 1 => fun s => if (wY A b s).testBit b = true then wY A b s ||| wY A b b else wY A b s
theorem wY_lt (hA : ∀ s, s < 12 → A s < 4096) : ∀ b s, b ≤ 12 → s < 12 → wY A b s < 4096 := by
  intro b
  induction b with
  | zero => intro s _ hs; exact hA s hs
  | succ b ih =>
    intro s hb hs
    show (if (wY A b s).testBit b = true then wY A b s ||| wY A b b else wY A b s) < 2 ^ 12
    split
    · exact Nat.or_lt_two_pow (ih s (by omega) hs) (ih b (by omega) (by omega))
    · exact ih s (by omega) hs
theorem wY_bit {b s t : Nat} : (wY A (b + 1) s).testBit t = true ↔ (wY A b s).testBit t = true ∨ ((wY A b s).testBit b = true ∧ (wY A b b).testBit t = true) := by
  show (if (wY A b s).testBit b = true then wY A b s ||| wY A b b else wY A b s).testBit t = true ↔ _
  by_cases h : (wY A b s).testBit b = true
  · rw [if_pos h, Nat.testBit_or, Bool.or_eq_true]
    exact ⟨fun h' => h'.elim Or.inl (fun h' => Or.inr ⟨h, h'⟩), fun h' => h'.elim Or.inl (fun h' => Or.inr h'.2)⟩
  · rw [if_neg h]
    exact ⟨Or.inl, fun h' => h'.elim id (fun h' => absurd h'.1 h)⟩
theorem wY_ge : ∀ b s t, (A s).testBit t = true → (wY A b s).testBit t = true := by
  intro b
  induction b with
  | zero => intro s t h; exact h
  | succ b ih => intro s t h; exact wY_bit.mpr (Or.inl (ih s t h))
theorem wY_sound : ∀ b s t, b ≤ 12 → s < 12 → t < 12 → (wY A b s).testBit t = true → Rch A s t := by
  intro b
  induction b with
  | zero => intro s t _ _ ht h S h1 _; exact h1 t ht h
  | succ b ih =>
    intro s t hb hs ht h
    rcases wY_bit.mp h with h | ⟨h, h'⟩
    · exact ih s t (by omega) hs ht h
    · intro S h1 h2
      have hSb := ih s b (by omega) hs (by omega) h S h1 h2
      exact ih b t (by omega) (by omega) ht h' S (fun k hk hk' => h2 b k (by omega) hk hSb hk') h2
theorem wY_trans : ∀ b k s t, k < b → (wY A b s).testBit k = true → (wY A b k).testBit t = true → (wY A b s).testBit t = true := by
  intro b
  induction b with
  | zero => intro k s t hk; omega
  | succ b ih =>
    intro k s t hk h1 h2
    apply wY_bit.mpr
    have g1 := wY_bit.mp h1
    have g2 := wY_bit.mp h2
    by_cases e : k = b
    · subst e
      rcases g1 with g1 | ⟨g1, -⟩ <;> rcases g2 with g2 | ⟨-, g2⟩ <;> exact Or.inr ⟨g1, g2⟩
    · have hkb : k < b := by omega
      rcases g1 with g1 | ⟨g1, g1'⟩ <;> rcases g2 with g2 | ⟨g2, g2'⟩
      · exact Or.inl (ih k s t hkb g1 g2)
      · exact Or.inr ⟨ih k s b hkb g1 g2, g2'⟩
      · exact Or.inr ⟨g1, ih k b t hkb g1' g2⟩
      · exact Or.inr ⟨g1, g2'⟩
theorem wY_iff {s t : Nat} (hs : s < 12) (ht : t < 12) : (wY A 12 s).testBit t = true ↔ Rch A s t := by
  constructor
  · exact wY_sound 12 s t (by omega) hs ht
  · intro h
    exact h (fun t => (wY A 12 s).testBit t) (fun k _ hk' => wY_ge 12 s k hk') (fun k j hk _ h1 h2 => wY_trans 12 k s j hk h1 (wY_ge 12 k j h2))
/-- one round: what lies under those in x, one after another -/
def rdF (A : Nat → Nat) : Nat → Nat → Nat → Nat
  | 0, _, x => x
  | m + 1, k, x => rdF A m (k + 1) (if x.testBit k = true then x ||| A k else x)
def itF (A : Nat → Nat) : Nat → Nat → Nat
  | 0, x => x
  | n + 1, x => itF A n (rdF A 12 0 x)
theorem step_ge {x k t : Nat} (h : x.testBit t = true) : (if x.testBit k = true then x ||| A k else x).testBit t = true := by
  split
  · rw [Nat.testBit_or, h, Bool.true_or]
  · exact h
theorem rd_ge : ∀ m k x t, x.testBit t = true → (rdF A m k x).testBit t = true := by
  intro m
  induction m with
  | zero => intro k x t h; exact h
  | succ m ih => intro k x t h; exact ih _ _ t (step_ge h)
theorem it_ge : ∀ n x t, x.testBit t = true → (itF A n x).testBit t = true := by
  intro n
  induction n with
  | zero => intro x t h; exact h
  | succ n ih => intro x t h; exact ih _ t (rd_ge 12 0 x t h)
theorem rd_lt (hA : ∀ s, s < 12 → A s < 4096) : ∀ m k x, k + m ≤ 12 → x < 4096 → rdF A m k x < 4096 := by
  intro m
  induction m with
  | zero => intro k x _ h; exact h
  | succ m ih =>
    intro k x hk h
    refine ih _ _ (by omega) ?_
    show (if x.testBit k = true then x ||| A k else x) < 2 ^ 12
    split
    · exact Nat.or_lt_two_pow h (hA k (by omega))
    · exact h
theorem it_lt (hA : ∀ s, s < 12 → A s < 4096) : ∀ n x, x < 4096 → itF A n x < 4096 := by
  intro n
  induction n with
  | zero => intro x h; exact h
  | succ n ih => intro x h; exact ih _ (rd_lt hA 12 0 x (by omega) h)
theorem rd_closed (hA : ∀ s, s < 12 → A s < 4096) : ∀ m k x, k + m ≤ 12 → x < 4096 → rdF A m k x = x → ∀ j, k ≤ j → j < k + m → x.testBit j = true → ∀ t, (A j).testBit t = true → x.testBit t = true := by
  intro m
  induction m with
  | zero => intro k x _ _ _ j h1 h2; omega
  | succ m ih =>
    intro k x hk hx h j h1 h2 hj t ht
    rw [rdF] at h
    obtain ⟨y, hy⟩ : ∃ y, y = if x.testBit k = true then x ||| A k else x := ⟨_, rfl⟩
    rw [← hy] at h
    have hylt : y < 4096 := by
      rw [hy]
      show (if x.testBit k = true then x ||| A k else x) < 2 ^ 12
      split
      · exact Nat.or_lt_two_pow hx (hA k (by omega))
      · exact hx
    have hyx : y = x := mask_eq hylt hx (fun i hi => by
      cases e : x.testBit i with
      | true => rw [hy]; exact step_ge e
      | false =>
        cases e' : y.testBit i with
        | false => rfl
        | true =>
          have := rd_ge (A := A) m (k + 1) y i e'
          rw [h, e] at this
          exact this.symm)
    by_cases e : j = k
    · subst e
      rw [if_pos hj] at hy
      rw [← hyx, hy, Nat.testBit_or, ht, Bool.or_true]
    · rw [hyx] at h
      exact ih (k + 1) x (by omega) hx h j (by omega) (by omega) hj t ht
theorem rd_in {S : Nat → Bool} (h2 : ∀ k j, k < 12 → j < 12 → S k = true → (A k).testBit j = true → S j = true) : ∀ m k x, k + m ≤ 12 → (∀ t, t < 12 → x.testBit t = true → S t = true) → ∀ t, t < 12 → (rdF A m k x).testBit t = true → S t = true := by
  intro m
  induction m with
  | zero => intro k x _ h; exact h
  | succ m ih =>
    intro k x hk h
    refine ih (k + 1) _ (by omega) (fun t ht h' => ?_)
    by_cases e : x.testBit k = true
    · rw [if_pos e, Nat.testBit_or, Bool.or_eq_true] at h'
      exact h'.elim (h t ht) (fun h' => h2 k t (by omega) ht (h k (by omega) e) h')
    · rw [if_neg e] at h'
      exact h t ht h'
theorem it_in {S : Nat → Bool} (h2 : ∀ k j, k < 12 → j < 12 → S k = true → (A k).testBit j = true → S j = true) : ∀ n x, (∀ t, t < 12 → x.testBit t = true → S t = true) → ∀ t, t < 12 → (itF A n x).testBit t = true → S t = true := by
  intro n
  induction n with
  | zero => intro x h; exact h
  | succ n ih => intro x h; exact ih _ (rd_in h2 12 0 x (by omega) h)
theorem it_fix {x : Nat} (h : rdF A 12 0 x = x) : ∀ n, itF A n x = x := by
  intro n
  induction n with
  | zero => rfl
  | succ n ih => rw [itF, h, ih]
def cd (x : Nat) : Nat := cnt (fun k => x.testBit k) 12 0 0
theorem it_grow (hA : ∀ s, s < 12 → A s < 4096) : ∀ n x, x < 4096 → rdF A 12 0 (itF A n x) = itF A n x ∨ cd x + n ≤ cd (itF A n x) := by
  intro n
  induction n with
  | zero => intro x _; exact Or.inr (Nat.le_refl _)
  | succ n ih =>
    intro x hx
    have hy := rd_lt hA 12 0 x (by omega) hx
    by_cases e : rdF A 12 0 x = x
    · exact Or.inl (by rw [it_fix e]; exact e)
    · rcases ih _ hy with h | h
      · exact Or.inl h
      · refine Or.inr ?_
        have h1 : cd x + 1 ≤ cd (rdF A 12 0 x) := by
          refine Classical.byContradiction (fun hn => e (mask_eq hy hx (fun k hk => ?_)))
          cases e1 : x.testBit k with
          | true => exact rd_ge 12 0 x k e1
          | false =>
            cases e2 : (rdF A 12 0 x).testBit k with
            | false => rfl
            | true => exact absurd (cnt_strict (f := fun k => x.testBit k) (g := fun k => (rdF A 12 0 x).testBit k) (s := k) 12 0 0 (fun i _ _ h => rd_ge 12 0 x i h) (Nat.zero_le _) (by omega) e1 e2) hn
        show cd x + (n + 1) ≤ cd (itF A n (rdF A 12 0 x))
        omega
theorem rd_0 : ∀ m k, rdF A m k 0 = 0 := by
  intro m
  induction m with
  | zero => intro k; rfl
  | succ m ih =>
    intro k
    rw [rdF, if_neg (by rw [Nat.zero_testBit]; exact Bool.false_ne_true), ih]
theorem cnt_no : ∀ m t a, cnt (fun _ => false) m t a = a := by
  intro m
  induction m with
  | zero => intro t a; rfl
  | succ m ih => intro t a; rw [cnt, ih]; rfl
theorem it_closed (hA : ∀ s, s < 12 → A s < 4096) {x : Nat} (hx : x < 4096) : rdF A 12 0 (itF A 12 x) = itF A 12 x := by
  by_cases e : x = 0
  · rw [e, it_fix (rd_0 12 0), rd_0]
  · rcases it_grow hA 12 x hx with h | h
    · exact h
    · exfalso
      have h1 : cd (itF A 12 x) ≤ 0 + 12 := cnt_le 12 0 0
      refine e ((mask_0 hx).mpr (fun k hk => ?_))
      cases e1 : x.testBit k with
      | false => rfl
      | true =>
        have h2 := cnt_strict (f := fun _ => false) (g := fun k => x.testBit k) (s := k) 12 0 0 (fun i _ _ h => absurd h Bool.false_ne_true) (Nat.zero_le _) (by omega) rfl e1
        rw [cnt_no] at h2
        have h3 : 0 + 1 ≤ cd x := h2
        omega
theorem it_iff (hA : ∀ s, s < 12 → A s < 4096) {s t : Nat} (hs : s < 12) (ht : t < 12) : (itF A 12 (A s)).testBit t = true ↔ Rch A s t := by
  constructor
  · intro h S h1 h2
    exact it_in h2 12 (A s) (fun t ht h => h1 t ht h) t ht h
  · intro h
    exact h (fun t => (itF A 12 (A s)).testBit t) (fun k _ h => it_ge 12 (A s) k h) (fun k j hk _ h1 h2 => rd_closed hA 12 0 _ (by omega) (it_lt hA 12 _ (hA s hs)) (it_closed hA (hA s hs)) k (Nat.zero_le _) (by omega) h1 j h2)
theorem it_wY (hA : ∀ s, s < 12 → A s < 4096) {s : Nat} (hs : s < 12) : itF A 12 (A s) = wY A 12 s :=
  mask_eq (it_lt hA 12 _ (hA s hs)) (wY_lt hA 12 s (by omega) hs) (fun k hk => by
    have h1 := it_iff hA hs hk
    have h2 := wY_iff (A := A) hs hk
    cases e1 : (itF A 12 (A s)).testBit k with
    | true => exact (h2.mpr (h1.mp e1)).symm
    | false =>
      cases e2 : (wY A 12 s).testBit k with
      | false => rfl
      | true =>
        rw [h1.mpr (h2.mp e2)] at e1
        exact e1.symm)
/-- nothing is reached at t if nothing lies on t -/
theorem wY_none (hA : ∀ s, s < 12 → A s < 4096) {t : Nat} (ht : t < 12) : (∀ k, k < 12 → (wY A 12 k).testBit t = false) ↔ ∀ k, k < 12 → (A k).testBit t = false := by
  constructor
  · intro h k hk
    cases e : (A k).testBit t with
    | false => rfl
    | true =>
      have h1 := h k hk
      rw [wY_ge 12 k t e] at h1
      exact h1
  · intro h k hk
    cases e : (wY A 12 k).testBit t with
    | false => rfl
    | true =>
      have h1 := (wY_iff hk ht).mp e (fun j => decide (j ≠ t)) (fun j hj h2 => decide_eq_true (fun e => by rw [e, h k hk] at h2; cases h2)) (fun i j hi hj _ h2 => decide_eq_true (fun e => by rw [e, h i hi] at h2; cases h2))
      exact absurd rfl (of_decide_eq_true h1)
end S70
