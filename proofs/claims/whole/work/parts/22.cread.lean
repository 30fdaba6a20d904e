/-! ===== the class's World is read ===== -/
section S22
variable {th : Bool} {z w : Nat} {M : mM} {p : Nat → Nat} {W : Wd} {c : Nat}
theorem cw_isTaken (hC : CW th w M p W) (hf : wf c W) (hc : c < 2147483648) (x : Int32) : F_World_isTaken w x M = some (wAt W x).isSome := by
  unfold F_World_isTaken
  rcases inch_c x with ⟨i, hi, rfl⟩ | hx
  · rw [if_pos (inch_k hi), ra_ok hi (by omega), ob1_ok, ob1_ok, CW_A hC hi]
    unfold numAt
    cases h : wAt W (nI i) with
    | none => rfl
    | some t =>
      obtain ⟨h1, -⟩ := wAt_some h
      obtain ⟨j, hj, e⟩ := wf_no hf hc h1
      simp only [e, nnon hj, not_false_eq_true, decide_true, Option.isSome_some]
  · rw [if_neg hx, ob1_ok, wAt_out hf hx]
    rfl
theorem l_slotOf (hw : isW w) (hC : CW th w M p W) {x : Int32} {kt : Option Int32} : ∀ (m t n : Nat), t + m = wN W → m < n → L_World_slotOf_1 z w x M kt n (nI t) = match fi (fun t => decide (wT W t 0 = x)) m t with
    | some k => some (nI k)
    | none => kt := by
  have h20 := CW_20 hC
  intro m
  induction m with
  | zero =>
    intro t n ht hn
    obtain ⟨n, rfl⟩ : ∃ k, n = k + 1 := ⟨n - 1, by omega⟩
    rw [L_World_slotOf_1, CW_N hC, if_neg (lF (by omega) (by omega))]
    rfl
  | succ m ih =>
    intro t n ht hn
    obtain ⟨n, rfl⟩ : ∃ k, n = k + 1 := ⟨n - 1, by omega⟩
    rw [L_World_slotOf_1, CW_N hC, if_pos (lT (by omega) (by omega)), rT_ok hw (CW_P hC) (by omega), ob1_ok, ob1_ok, CW_T hC (by omega) (by omega), fi]
    by_cases hx : wT W t 0 = x
    · rw [if_pos (decide_eq_true hx), if_pos (decide_eq_true hx)]
    · rw [if_neg (fun h => hx (of_decide_eq_true h)), if_neg (fun h => hx (of_decide_eq_true h)), nadd, ih (t + 1) n (by omega) (by omega)]
theorem cw_slotOf (hz : 100 ≤ z) (hw : isW w) (hC : CW th w M p W) (x : Int32) : F_World_slotOf z w x M = some (oI (wOf W x)) := by
  have h20 := CW_20 hC
  unfold F_World_slotOf
  rw [l_slotOf hw hC (wN W) 0 z (by omega) (by omega)]
  unfold wOf oI
  cases fi (fun t => decide (wT W t 0 = x)) (wN W) 0 <;> rfl
theorem cw_find (hz : 100 ≤ z) (hw : isW w) (hC : CW th w M p W) (x : Int32) : F_World_find z w x M = some ((wOf W x).map p) := by
  have h20 := CW_20 hC
  unfold F_World_find
  rw [cw_slotOf hz hw hC, ob1_ok]
  cases h : wOf W x with
  | none => rfl
  | some t =>
    obtain ⟨h1, -⟩ := wOf_some h
    have e : oI (some t) = nI t := rfl
    rw [e, if_neg (mF (by omega)), rT_ok hw (CW_P hC) (by omega)]
    rfl
theorem cw_thingAt (hz : 100 ≤ z) (hw : isW w) (hC : CW th w M p W) (hf : wf c W) (hc : c < 2147483648) (x : Int32) : F_World_thingAt z w x M = some ((wAt W x).map p) := by
  unfold F_World_thingAt
  rw [cw_isTaken hC hf hc, ob1_ok, ob1_ok]
  cases h : wAt W x with
  | none => rfl
  | some t =>
    obtain ⟨h1, h2⟩ := wAt_some h
    obtain ⟨i, hi, e⟩ := wf_at hf h1
    have hx : x = nI i := h2.symm.trans e
    subst hx
    rw [if_pos Option.isSome_some, ra_ok hi (by omega), ob1_ok, CW_A hC hi, cw_find hz hw hC]
    have hn : numAt W (i) = wT W t 0 := by unfold numAt; rw [h]
    rw [hn, wOf_of hf h1 rfl]
    rfl
def b2 (b : Bool) : Int32 := if b = true then nI 1 else nI 0
/-- how many lie next to an inch -/
def wNr (W : Wd) (x : Int32) : Int32 := b2 (wAt W (x - nI 1)).isSome + b2 (wAt W (x + nI 1)).isSome + b2 (wAt W (x - nI 10)).isSome + b2 (wAt W (x + nI 10)).isSome
theorem b2_if (b : Bool) : (if b = true then some (nI 1) else some (nI 0) : Option Int32) = some (b2 b) := by cases b <;> rfl
theorem cw_near (hC : CW th w M p W) (hf : wf c W) (hc : c < 2147483648) (x : Int32) : F_World_near w x M = some (wNr W x) := by
  unfold F_World_near wNr
  simp only [cw_isTaken hC hf hc, ob1_ok, b2_if]
theorem cw_hasRoom (hC : CW th w M p W) (hf : wf c W) (hc : c < 2147483648) {i : Nat} (hi : i < 60) : F_World_hasRoom w (nI i) M = some ((wAt W (nI i)).isNone && decide (wN W < 20)) := by
  have h20 := CW_20 hC
  have e2 : decide (nI (wN W) < nI 20) = decide (wN W < 20) := decide_eq_decide.mpr (nI_lt' (by omega) (by omega))
  unfold F_World_hasRoom
  rw [if_pos (inch_k hi), ra_ok hi (by omega), ob1_ok, ob1_ok, CW_A hC hi, CW_N hC, e2]
  unfold numAt
  cases h : wAt W (nI i) with
  | none => rfl
  | some t =>
    obtain ⟨h1, -⟩ := wAt_some h
    obtain ⟨j, hj, e⟩ := wf_no hf hc h1
    simp only [e, decide_eq_false (mF hj)]
    rfl
theorem cw_noRoom {x : Int32} (hx : ¬ (¬ x < nI 0 ∧ x < nI 60)) : F_World_hasRoom w x M = some false := by
  unfold F_World_hasRoom
  rw [if_neg hx]
  rfl
end S22
