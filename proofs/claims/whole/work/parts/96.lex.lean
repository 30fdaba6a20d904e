/-! ===== the tape is read: runs of bytes, one token, both ways ===== -/
def isLet (b : Nat) : Bool := (Nat.ble 97 b && Nat.ble b 122) || (Nat.ble 65 b && Nat.ble b 90)
def isDig (b : Nat) : Bool := Nat.ble 48 b && Nat.ble b 57
def isSgn (b : Nat) : Bool := [59, 43, 45, 42, 47, 40, 41, 60, 61, 62].contains b
def isBl (b : Nat) : Bool := Nat.beq b 32 || Nat.beq b 10
def byOk (b : Nat) : Bool := (F_Reader_isLetter (nI b) == isLet b) && (F_Mod_isLetter (nI b) == isLet b) && (F_Reader_isDigit (nI b) == isDig b) && (F_Mod_isDigit (nI b) == isDig b) && (decide (¬ (sIx (ji2c (nI b)) < nI 0)) == isSgn b) && (F_Mod_isMarkSign (nI b) == isSgn b)
set_option maxRecDepth 100000 in
theorem by_all : allB byOk 8 0 = true := by decide +kernel
theorem by_ok {b : Nat} (h : b < 256) : F_Reader_isLetter (nI b) = isLet b ∧ F_Mod_isLetter (nI b) = isLet b ∧ F_Reader_isDigit (nI b) = isDig b ∧ F_Mod_isDigit (nI b) = isDig b ∧ decide (¬ (sIx (ji2c (nI b)) < nI 0)) = isSgn b ∧ F_Mod_isMarkSign (nI b) = isSgn b := by
  have h1 := allB_ok 8 0 by_all b (by omega) (by omega)
  unfold byOk at h1
  simp only [Bool.and_eq_true, beq_iff_eq] at h1
  obtain ⟨⟨⟨⟨⟨a1, a2⟩, a3⟩, a4⟩, a5⟩, a6⟩ := h1
  exact ⟨a1, a2, a3, a4, a5, a6⟩
theorem by_end : F_Mod_isLetter (-1) = false ∧ F_Mod_isDigit (-1) = false := by decide
theorem let_nb {b : Nat} (h : isLet b = true) : b ≠ 32 := fun e => by subst e; revert h; decide
/-- the end of a run that begins at p -/
def rE (q : Nat → Bool) (tp : Nat → Nat) (n : Nat) : Nat → Nat → Nat
  | 0, p => p
  | m + 1, p => if p < n ∧ q (tp p) = true then rE q tp n m (p + 1) else p
theorem rE_rng {q : Nat → Bool} {tp : Nat → Nat} {n : Nat} : ∀ m p, p ≤ n → p ≤ rE q tp n m p ∧ rE q tp n m p ≤ n ∧ ∀ j, p ≤ j → j < rE q tp n m p → q (tp j) = true := by
  intro m
  induction m with
  | zero => intro p hp; exact ⟨Nat.le_refl _, hp, fun j h1 h2 => by have h3 : j < p := h2; omega⟩
  | succ m ih =>
    intro p hp
    rw [rE]
    by_cases h : p < n ∧ q (tp p) = true
    · rw [if_pos h]
      obtain ⟨a, b, d⟩ := ih (p + 1) (by omega)
      refine ⟨by omega, b, fun j h1 h2 => ?_⟩
      by_cases e : j = p
      · rw [e]; exact h.2
      · exact d j (by omega) h2
    · rw [if_neg h]
      exact ⟨Nat.le_refl _, hp, fun j h1 h2 => by omega⟩
theorem up_id (N : mM) (c j : Nat) : up N c j (N c j) = N := by
  funext c' j'
  by_cases e : c' = c
  · subst e
    by_cases e2 : j' = j
    · subst e2; exact up_same _ _ _ _
    · exact up_neJ _ _ _ e2
  · exact up_neC _ _ _ _ e
theorem up_up (N : mM) (c j : Nat) (x y : Int32) : up (up N c j x) c j y = up N c j y := by
  funext c' j'
  by_cases e : c' = c
  · subst e
    by_cases e2 : j' = j
    · subst e2; rw [up_same, up_same]
    · rw [up_neJ _ _ _ e2, up_neJ _ _ _ e2, up_neJ _ _ _ e2]
  · rw [up_neC _ _ _ _ e, up_neC _ _ _ _ e, up_neC _ _ _ _ e]
section S96
variable {z n : Nat} {M N : mM} {tp : Nat → Nat}
theorem l_crun (hT : TB M N n tp) (h1 : M 100 1 = nI n) : ∀ (m p y : Nat), p + m = n → m < y → L_Reader_token_1 z M y (nI p) = some (nI (rE isLet tp n m p)) := by
  obtain ⟨h4, hb⟩ := hT
  intro m
  induction m with
  | zero =>
    intro p y hp hy
    obtain ⟨y, rfl⟩ : ∃ k, y = k + 1 := ⟨y - 1, by omega⟩
    rw [L_Reader_token_1, h1, if_neg (lF (by omega) (by omega)), ob1_ok, if_neg Bool.false_ne_true]
    rfl
  | succ m ih =>
    intro p y hp hy
    obtain ⟨y, rfl⟩ : ∃ k, y = k + 1 := ⟨y - 1, by omega⟩
    obtain ⟨b1, b2, b3⟩ := hb p (by omega)
    rw [L_Reader_token_1, h1, if_pos (lT (by omega) (by omega)), ra_ok (by omega) (by omega), ob1_ok, ob1_ok, b2, (by_ok b1).1, rE]
    by_cases h : isLet (tp p) = true
    · rw [if_pos h, if_pos ⟨by omega, h⟩, nadd]
      exact ih (p + 1) y (by omega) (by omega)
    · rw [if_neg h, if_neg (fun h' => h h'.2)]
theorem raw_n (hT : TB M N n tp) (h8 : N 312 8 = nI n) {p : Nat} (hp : p < n) : F_Mod_raw (nI p) N = some (nI (tp p)) := by
  unfold F_Mod_raw
  have h4 := hT.1
  rw [h8, if_pos (lT hp (by omega)), ra_ok (by omega) (by omega), ob1_ok, ob1_ok, (hT.2 p hp).2.2]
theorem raw_end (hT : TB M N n tp) (h8 : N 312 8 = nI n) : F_Mod_raw (nI n) N = some (-1) := by
  unfold F_Mod_raw
  have h4 := hT.1
  rw [h8, if_neg (lF (Nat.le_refl _) (by omega)), ob1_ok]
theorem TB_N {N' : mM} (h : TB M N n tp) (e : N' 317 = N 317) : TB M N' n tp := ⟨h.1, fun j hj => by rw [e]; exact h.2 j hj⟩
theorem TB_M {M' : mM} (h : TB M N n tp) (e : M' 101 = M 101) : TB M' N n tp := ⟨h.1, fun j hj => by rw [e]; exact h.2 j hj⟩
theorem l_mlet : ∀ (m p y : Nat) (N : mM), TB M N n tp → N 312 8 = nI n → N 312 9 = nI p → p + m = n → m < y → L_Mod_reads_3 z y N = some (up N 312 9 (nI (rE isLet tp n m p))) := by
  intro m
  induction m with
  | zero =>
    intro p y N hT h8 h9 hp hy
    obtain ⟨y, rfl⟩ : ∃ k, y = k + 1 := ⟨y - 1, by omega⟩
    have ep : p = n := by omega
    subst ep
    rw [L_Mod_reads_3, h9, raw_end hT h8, ob1_ok, ob1_ok, by_end.1, if_neg Bool.false_ne_true]
    show some N = some (up N 312 9 (nI p))
    rw [← h9, up_id]
  | succ m ih =>
    intro p y N hT h8 h9 hp hy
    obtain ⟨y, rfl⟩ : ∃ k, y = k + 1 := ⟨y - 1, by omega⟩
    obtain ⟨b1, b2, b3⟩ := hT.2 p (by omega)
    rw [L_Mod_reads_3, h9, raw_n hT h8 (by omega), ob1_ok, ob1_ok, (by_ok b1).2.1, rE]
    by_cases h : isLet (tp p) = true
    · rw [if_pos h, if_pos ⟨by omega, h⟩, ob1_ok, nadd, ih (p + 1) y (up N 312 9 (nI (p + 1))) (TB_N hT (upC (by omega))) (by rw [up_neJ _ _ _ (by omega)]; exact h8) (up_same _ _ _ _) (by omega) (by omega), up_up]
    · rw [if_neg h, if_neg (fun h' => h h'.2), ← h9, up_id]
theorem l_mbl : ∀ (m p y : Nat) (N : mM), TB M N n tp → N 312 8 = nI n → N 312 9 = nI p → p + m = n → m < y → L_Mod_reads_1 z y N = some (up N 312 9 (nI (rE isBl tp n m p))) := by
  intro m
  induction m with
  | zero =>
    intro p y N hT h8 h9 hp hy
    obtain ⟨y, rfl⟩ : ∃ k, y = k + 1 := ⟨y - 1, by omega⟩
    have ep : p = n := by omega
    subst ep
    rw [L_Mod_reads_1, h9, raw_end hT h8, ob1_ok, ob1_ok, ob1_ok, decide_eq_false (show ¬ (-1 : Int32) = nI 32 by decide), if_neg Bool.false_ne_true, decide_eq_false (show ¬ (-1 : Int32) = nI 10 by decide), ob1_ok, if_neg Bool.false_ne_true]
    show some N = some (up N 312 9 (nI p))
    rw [← h9, up_id]
  | succ m ih =>
    intro p y N hT h8 h9 hp hy
    obtain ⟨y, rfl⟩ : ∃ k, y = k + 1 := ⟨y - 1, by omega⟩
    obtain ⟨b1, b2, b3⟩ := hT.2 p (by omega)
    have hcond : (if decide (nI (tp p) = nI 32) = true then some true else some (decide (nI (tp p) = nI 10))) = some (isBl (tp p)) := by
      unfold isBl
      by_cases e : tp p = 32
      · rw [e]; rfl
      · rw [decide_eq_false (eF e (by omega) (by omega)), if_neg Bool.false_ne_true]
        by_cases e2 : tp p = 10
        · rw [e2]; rfl
        · rw [decide_eq_false (eF e2 (by omega) (by omega))]
          cases h1 : Nat.beq (tp p) 32 with
          | true => exact absurd (beq_iff.mp h1) e
          | false =>
            cases h2 : Nat.beq (tp p) 10 with
            | true => exact absurd (beq_iff.mp h2) e2
            | false => rfl
    rw [L_Mod_reads_1, h9, raw_n hT h8 (by omega), ob1_ok, ob1_ok, ob1_ok, hcond, ob1_ok, rE]
    by_cases h : isBl (tp p) = true
    · rw [if_pos h, if_pos ⟨by omega, h⟩, ob1_ok, nadd, ih (p + 1) y (up N 312 9 (nI (p + 1))) (TB_N hT (upC (by omega))) (by rw [up_neJ _ _ _ (by omega)]; exact h8) (up_same _ _ _ _) (by omega) (by omega), up_up]
    · rw [if_neg h, if_neg (fun h' => h h'.2), ← h9, up_id]
end S96
