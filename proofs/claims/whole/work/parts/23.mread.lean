/-! ===== the model's row is read ===== -/
section S23
variable {z : Nat} {M : mM} {W : Wd} {c : Nat}
theorem mm_thingAt (t : Nat) : F_Mod_thingAt (nI t) = nI (130 + 7 * t) := by
  unfold F_Mod_thingAt
  rw [nmul, nadd]
theorem l_mThingOf (hR : RM M W) (h20 : wN W ≤ 20) {x : Int32} {kt : Option Int32} : ∀ (m t n : Nat), t + m = wN W → m < n → L_Mod_thingOf_1 z x M kt n (nI t) = match fi (fun t => decide (wT W t 0 = x)) m t with
    | some k => some (nI k)
    | none => kt := by
  intro m
  induction m with
  | zero =>
    intro t n ht hn
    obtain ⟨n, rfl⟩ : ∃ k, n = k + 1 := ⟨n - 1, by omega⟩
    rw [L_Mod_thingOf_1, ra_ok (by omega) (by omega), ob1_ok, ob1_ok, RM_N hR, if_neg (fun h => lF (by omega) (by omega) (of_decide_eq_true h))]
    rfl
  | succ m ih =>
    intro t n ht hn
    obtain ⟨n, rfl⟩ : ∃ k, n = k + 1 := ⟨n - 1, by omega⟩
    rw [L_Mod_thingOf_1, ra_ok (by omega) (by omega), ob1_ok, ob1_ok, RM_N hR, if_pos (decide_eq_true (lT (by omega) (by omega))), mm_thingAt, ra_ok (by omega) (by omega), ob1_ok, ob1_ok, RM_T0 hR (by omega), fi]
    by_cases hx : wT W t 0 = x
    · rw [if_pos (decide_eq_true hx), if_pos (decide_eq_true hx)]
    · rw [if_neg (fun h => hx (of_decide_eq_true h)), if_neg (fun h => hx (of_decide_eq_true h)), nadd, ih (t + 1) n (by omega) (by omega)]
theorem mm_thingOf (hz : 100 ≤ z) (hR : RM M W) (h20 : wN W ≤ 20) (x : Int32) : F_Mod_thingOf z x M = some (oI (wOf W x)) := by
  unfold F_Mod_thingOf
  rw [l_mThingOf hR h20 (wN W) 0 z (by omega) (by omega)]
  unfold wOf oI
  cases fi (fun t => decide (wT W t 0 = x)) (wN W) 0 <;> rfl
theorem l_mStuckAt (hR : RM M W) (h20 : wN W ≤ 20) {x : Int32} {kt : Option Int32} : ∀ (m t n : Nat), t + m = wN W → m < n → L_Mod_stuckAt_1 z x M kt n (nI t) = match fi (fun t => decide (wT W t 4 = x)) m t with
    | some k => some (nI k)
    | none => kt := by
  intro m
  induction m with
  | zero =>
    intro t n ht hn
    obtain ⟨n, rfl⟩ : ∃ k, n = k + 1 := ⟨n - 1, by omega⟩
    rw [L_Mod_stuckAt_1, ra_ok (by omega) (by omega), ob1_ok, ob1_ok, RM_N hR, if_neg (fun h => lF (by omega) (by omega) (of_decide_eq_true h))]
    rfl
  | succ m ih =>
    intro t n ht hn
    obtain ⟨n, rfl⟩ : ∃ k, n = k + 1 := ⟨n - 1, by omega⟩
    rw [L_Mod_stuckAt_1, ra_ok (by omega) (by omega), ob1_ok, ob1_ok, RM_N hR, if_pos (decide_eq_true (lT (by omega) (by omega))), mm_thingAt, nadd, ra_ok (by omega) (by omega), ob1_ok, ob1_ok, RM_T hR (by omega) (by omega), fi]
    by_cases hx : wT W t 4 = x
    · rw [if_pos (decide_eq_true hx), if_pos (decide_eq_true hx)]
    · rw [if_neg (fun h => hx (of_decide_eq_true h)), if_neg (fun h => hx (of_decide_eq_true h)), nadd, ih (t + 1) n (by omega) (by omega)]
theorem mm_stuckAt (hz : 100 ≤ z) (hR : RM M W) (h20 : wN W ≤ 20) (x : Int32) : F_Mod_stuckAt z x M = some (oI (wAt W x)) := by
  unfold F_Mod_stuckAt
  rw [l_mStuckAt hR h20 (wN W) 0 z (by omega) (by omega)]
  unfold wAt oI
  cases fi (fun t => decide (wT W t 4 = x)) (wN W) 0 <;> rfl
theorem mm_isTaken (hz : 100 ≤ z) (hR : RM M W) (h20 : wN W ≤ 20) (x : Int32) : F_Mod_isTaken z x M = some (wAt W x).isSome := by
  unfold F_Mod_isTaken
  rw [mm_stuckAt hz hR h20]
  cases h : wAt W x with
  | none => simp [ob1_ok, oI]
  | some t =>
    obtain ⟨h1, -⟩ := wAt_some h
    simp [ob1_ok, oI, nnon (show t < 2147483648 by omega)]
theorem mm_glue (hR : RM M W) {i : Nat} (hi : i < 60) : F_Mod_glue (nI i) M = some (wG W i) := by
  unfold F_Mod_glue
  rw [nadd, ra_ok (by omega) (by omega), ob1_ok, RM_G hR hi, zsub]
/-- the model counts those at 1 or 10 inches -/
def apt (a i : Int32) : Int32 := if i < a then a - i else i - a
def nrN (W : Wd) (i : Int32) : Nat → Nat → Nat → Nat
  | 0, _, a => a
  | m + 1, t, a => nrN W i m (t + 1) (if apt (wT W t 4) i = nI 1 ∨ apt (wT W t 4) i = nI 10 then a + 1 else a)
theorem l_mNear (hR : RM M W) (h20 : wN W ≤ 20) {i : Int32} : ∀ (m t n a : Nat), t + m = wN W → m < n → L_Mod_nearTo_1 z i M n (nI a) (nI t) = some (nI (nrN W i m t a)) := by
  intro m
  induction m with
  | zero =>
    intro t n a ht hn
    obtain ⟨n, rfl⟩ : ∃ k, n = k + 1 := ⟨n - 1, by omega⟩
    rw [L_Mod_nearTo_1, ra_ok (by omega) (by omega), ob1_ok, ob1_ok, RM_N hR, if_neg (fun h => lF (by omega) (by omega) (of_decide_eq_true h))]
    rfl
  | succ m ih =>
    intro t n a ht hn
    obtain ⟨n, rfl⟩ : ∃ k, n = k + 1 := ⟨n - 1, by omega⟩
    rw [L_Mod_nearTo_1, ra_ok (by omega) (by omega), ob1_ok, ob1_ok, RM_N hR, if_pos (decide_eq_true (lT (by omega) (by omega))), mm_thingAt, nadd, ra_ok (by omega) (by omega), ob1_ok, RM_T hR (by omega) (by omega), nrN]
    have e : F_Mod_apart (wT W t 4) i = apt (wT W t 4) i := rfl
    by_cases h : apt (wT W t 4) i = nI 1 ∨ apt (wT W t 4) i = nI 10
    · rw [e, if_pos h, ob1_ok, if_pos h, nadd, nadd, ih (t + 1) n (a + 1) (by omega) (by omega)]
    · rw [e, if_neg h, ob1_ok, if_neg h, nadd, ih (t + 1) n a (by omega) (by omega)]
end S23
