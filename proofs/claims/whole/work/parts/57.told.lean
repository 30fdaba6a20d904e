/-! ===== what is told for thought: the rows of it, and how they grow, both ways ===== -/
def RwG (r wd : Nat) (M : mM) (F : Rw) : Prop := M r 3 = nI F.1 ∧ ∀ j k, j < F.1 → k < wd → M (r + 1) (j * wd + k) = F.2 j k
/-- strips, row, words, looks, veins, other veins -/
abbrev Tx : Type := Rw × Rw × Rw × Rw × Rw × Rw
abbrev tStr (T : Tx) : Rw := T.1
abbrev tRow (T : Tx) : Rw := T.2.1
abbrev tWrd (T : Tx) : Rw := T.2.2.1
abbrev tLok (T : Tx) : Rw := T.2.2.2.1
abbrev tVn (T : Tx) : Rw := T.2.2.2.2.1
abbrev tVo (T : Tx) : Rw := T.2.2.2.2.2
def okX (most wd : Nat) (ok : (Nat → Int32) → Prop) (F : Rw) : Prop := F.1 ≤ most ∧ ∀ j, j < F.1 → ok (F.2 j)
def bt (x : Int32) (a b : Nat) : Prop := ∃ k, a ≤ k ∧ k ≤ b ∧ x = nI k
def okT (T : Tx) : Prop :=
  okX 16 2 (fun g => bt (g 0) 0 11 ∧ bt (g 1) 0 11) (tStr T) ∧ okX 8 1 (fun g => bt (g 0) 0 5) (tRow T) ∧ okX 6 2 (fun g => bt (g 0) 1 30 ∧ bt (g 1) 0 99) (tWrd T) ∧ okX 8 1 (fun g => bt (g 0) 0 4095) (tLok T) ∧
  okX 9 2 (fun g => bt (g 0) 0 7 ∧ bt (g 1) 0 7 ∧ g 0 ≠ g 1) (tVn T) ∧ okX 9 2 (fun g => bt (g 0) 0 7 ∧ bt (g 1) 0 7 ∧ g 0 ≠ g 1) (tVo T)
/-- the class's Told at cell t holds them -/
def CT (t : Nat) (M : mM) (T : Tx) : Prop :=
  (M (t + 10) 3 = nI (tStr T).1 ∧ ∀ j k, j < (tStr T).1 → k < 2 → M (t + 11) (j * 5 + k) = (tStr T).2 j k) ∧ RwG (t + 12) 1 M (tRow T) ∧ RwG (t + 14) 2 M (tWrd T) ∧ RwG (t + 16) 1 M (tLok T) ∧ RwG (t + 18) 2 M (tVn T) ∧ RwG (t + 20) 2 M (tVo T)
/-- which lie under a strip, the rows one after another -/
def sMask (S : Nat → Nat → Int32) : Nat → Nat → Int32
  | 0 => fun _ => nI 0
  | n + 1 => upd (sMask S n) (S n 0).toNatClampNeg (sMask S n (S n 0).toNatClampNeg ||| jshl (nI 1) (S n 1))
def vMask (V : Nat → Nat → Int32) : Nat → Nat → Int32
  | 0 => fun _ => nI 0
  | n + 1 => upd (upd (vMask V n) (V n 0).toNatClampNeg (vMask V n (V n 0).toNatClampNeg ||| jshl (nI 1) (V n 1))) (V n 1).toNatClampNeg
      (upd (vMask V n) (V n 0).toNatClampNeg (vMask V n (V n 0).toNatClampNeg ||| jshl (nI 1) (V n 1)) (V n 1).toNatClampNeg ||| jshl (nI 1) (V n 0))
def MT (N : mM) (T : Tx) : Prop :=
  (N 312 34 = nI (tStr T).1 ∧ ∀ s, s < 12 → N 329 s = sMask (tStr T).2 (tStr T).1 s) ∧ (N 312 39 = nI (tRow T).1 ∧ ∀ j, j < (tRow T).1 → N 333 j = (tRow T).2 j 0) ∧
  (N 312 42 = nI (tWrd T).1 ∧ ∀ j, j < (tWrd T).1 → N 335 j = (tWrd T).2 j 0 ∧ N 336 j = (tWrd T).2 j 1) ∧ (N 312 45 = nI (tLok T).1 ∧ ∀ j, j < (tLok T).1 → N 337 j = (tLok T).2 j 0) ∧
  (N 338 0 = nI (tVn T).1 ∧ ∀ s, s < 8 → N 339 s = vMask (tVn T).2 (tVn T).1 s) ∧ (N 338 1 = nI (tVo T).1 ∧ ∀ s, s < 8 → N 339 (8 + s) = vMask (tVo T).2 (tVo T).1 s)
def rAdd (F : Rw) (g : Nat → Int32) : Rw := (F.1 + 1, fun j => if j = F.1 then g else F.2 j)
theorem sMask_cg {S S' : Nat → Nat → Int32} : ∀ (n : Nat), (∀ j, j < n → S' j = S j) → sMask S' n = sMask S n := by
  intro n
  induction n with
  | zero => intro _; rfl
  | succ n ih =>
    intro h
    rw [sMask, sMask, ih (fun j hj => h j (by omega)), h n (by omega)]
theorem vMask_cg {S S' : Nat → Nat → Int32} : ∀ (n : Nat), (∀ j, j < n → S' j = S j) → vMask S' n = vMask S n := by
  intro n
  induction n with
  | zero => intro _; rfl
  | succ n ih =>
    intro h
    rw [vMask, vMask, ih (fun j hj => h j (by omega)), h n (by omega)]
section S57
variable {z t : Nat} {M N : mM} {p : Nat → Nat} {W : Wd} {c : Nat} {T : Tx}
theorem CT_cg {M' : mM} (h : CT t M T) (e : ∀ c', t + 10 ≤ c' → c' ≤ t + 21 → M' c' = M c') : CT t M' T := by
  unfold CT RwG at h ⊢
  rw [e (t + 10) (by omega) (by omega), e (t + 11) (by omega) (by omega), e (t + 12) (by omega) (by omega), e (t + 12 + 1) (by omega) (by omega), e (t + 14) (by omega) (by omega), e (t + 14 + 1) (by omega) (by omega), e (t + 16) (by omega) (by omega), e (t + 16 + 1) (by omega) (by omega),
    e (t + 18) (by omega) (by omega), e (t + 18 + 1) (by omega) (by omega), e (t + 20) (by omega) (by omega), e (t + 20 + 1) (by omega) (by omega)]
  exact h
theorem MT_cg {N' : mM} (h : MT N T) (e0 : ∀ j, j = 34 ∨ j = 39 ∨ j = 42 ∨ j = 45 → N' 312 j = N 312 j) (e : ∀ c', c' = 329 ∨ c' = 333 ∨ c' = 335 ∨ c' = 336 ∨ c' = 337 ∨ c' = 338 ∨ c' = 339 → N' c' = N c') : MT N' T := by
  unfold MT at h ⊢
  rw [e0 34 (by omega), e0 39 (by omega), e0 42 (by omega), e0 45 (by omega), e 329 (by omega), e 333 (by omega), e 335 (by omega), e 336 (by omega), e 337 (by omega), e 338 (by omega), e 339 (by omega)]
  exact h
/-- the class's way of telling a line more -/
theorem tell_none {r wd mo : Nat} {a b : Int32} {can : Bool} : F_Rec_tell r wd mo a b true can M = some (nI 0, up M r 3 (nI 0)) := by
  unfold F_Rec_tell
  rw [if_pos rfl, ob1_ok]
theorem tell_no {r wd mo n : Nat} {a b : Int32} {can : Bool} (hn : M r 3 = nI n) (h1 : n ≤ 150) (h2 : mo ≤ 150) (h : can = false ∨ mo ≤ n) : F_Rec_tell r wd mo a b false can M = some (-1, M) := by
  unfold F_Rec_tell
  rw [if_neg Bool.false_ne_true, full_ok hn h1 h2, if_pos (h.elim (fun h => Or.inl (by rw [h]; exact Bool.false_ne_true)) (fun h => Or.inr (decide_eq_true h)))]
theorem tell_yes {r wd mo n : Nat} {a b : Int32} (hn : M r 3 = nI n) (hmo : n < mo) (hwd : wd = 1 ∨ wd = 2) (h2 : mo ≤ 150) : ∃ M', F_Rec_tell r wd mo a b false true M = some (nI (n + 1), M') ∧ Fr [r, r + 1] M M' ∧ M' r 3 = nI (n + 1) ∧ ∀ j k, k < wd → M' (r + 1) (j * wd + k) = if j = n then nl5 a b (nI 0) (nI 0) (nI 0) k else M (r + 1) (j * wd + k) := by
  obtain ⟨M', a1, a2, a3, a4⟩ := add_ok (M := M) hn hmo (show wd = 1 ∨ wd = 2 ∨ wd = 4 ∨ wd = 5 by omega) h2 a b (nI 0) (nI 0) (nI 0)
  refine ⟨M', ?_, a2, a3, a4⟩
  unfold F_Rec_tell
  rw [if_neg Bool.false_ne_true, full_ok hn (by omega) h2, if_neg (fun h => h.elim (fun h => h rfl) (fun h => absurd (of_decide_eq_true h) (by omega))), a1, ob1_ok, a3]
theorem RwG_add {r wd : Nat} {F : Rw} {M' : mM} {g : Nat → Int32} (hF : RwG r wd M F) (h3 : M' r 3 = nI (F.1 + 1)) (h : ∀ j k, k < wd → M' (r + 1) (j * wd + k) = if j = F.1 then g k else M (r + 1) (j * wd + k)) : RwG r wd M' (rAdd F g) := by
  refine ⟨h3, fun j k hj hk => ?_⟩
  have hj' : j < F.1 + 1 := hj
  rw [h j k hk]
  show _ = (if j = F.1 then g else F.2 j) k
  by_cases e : j = F.1
  · rw [if_pos e, if_pos e]
  · rw [if_neg e, if_neg e]
    exact hF.2 j k (by omega) hk
theorem RwG_0 {r wd : Nat} {M' : mM} {g : Nat → Nat → Int32} (h : M' r 3 = nI 0) : RwG r wd M' (0, g) := ⟨h, fun j k hj => absurd hj (Nat.not_lt_zero j)⟩
theorem okX_0 {most wd : Nat} {ok : (Nat → Int32) → Prop} {g : Nat → Nat → Int32} : okX most wd ok (0, g) := ⟨Nat.zero_le _, fun j hj => absurd hj (Nat.not_lt_zero j)⟩
theorem okX_add {most wd : Nat} {ok : (Nat → Int32) → Prop} {F : Rw} {g : Nat → Int32} (h : okX most wd ok F) (hn : F.1 < most) (hg : ok g) : okX most wd ok (rAdd F g) := by
  refine ⟨hn, fun j hj => ?_⟩
  have hj' : j < F.1 + 1 := hj
  show ok (if j = F.1 then g else F.2 j)
  by_cases e : j = F.1
  · rw [if_pos e]; exact hg
  · rw [if_neg e]; exact h.2 j (by omega)
theorem bt_of {x : Int32} {a b : Nat} (hb : b < 2147483648) (ha : a < 2147483648) (h : F_Rec_within x (nI a) (nI b) = true) : bt x a b := rng_n ha hb (of_decide_eq_true h)
def OKT (t : Nat) (S : List Nat) (M M' N N' : mM) : Prop := ∃ T', okT T' ∧ CT t M' T' ∧ MT N' T' ∧ Fr S M M' ∧ (∀ c', c' ∉ [312, 333, 335, 336, 337, 338, 339] → N' c' = N c') ∧ ∀ j, j ≠ 39 → j ≠ 42 → j ≠ 45 → N' 312 j = N 312 j
theorem CT_row {M' : mM} {R : Rw} (hC : CT 28 M T) (h : Fr [40, 41] M M') (hR : RwG 40 1 M' R) : CT 28 M' (tStr T, R, tWrd T, tLok T, tVn T, tVo T) := by
  obtain ⟨c0, c1, c2, c3, c4, c5⟩ := hC
  have e : ∀ c', c' ≠ 40 → c' ≠ 41 → M' c' = M c' := fun c' h1 h2 => h c' (by simp only [List.mem_cons, List.not_mem_nil, or_false]; omega)
  unfold RwG at c1 c2 c3 c4 c5
  refine ⟨?_, hR, ?_, ?_, ?_, ?_⟩
  · rw [e (28 + 10) (by omega) (by omega), e (28 + 11) (by omega) (by omega)]; exact c0
  · unfold RwG
    rw [e (28 + 14) (by omega) (by omega), e (28 + 14 + 1) (by omega) (by omega)]; exact c2
  · unfold RwG
    rw [e (28 + 16) (by omega) (by omega), e (28 + 16 + 1) (by omega) (by omega)]; exact c3
  · unfold RwG
    rw [e (28 + 18) (by omega) (by omega), e (28 + 18 + 1) (by omega) (by omega)]; exact c4
  · unfold RwG
    rw [e (28 + 20) (by omega) (by omega), e (28 + 20 + 1) (by omega) (by omega)]; exact c5
theorem CT_wrd {M' : mM} {R : Rw} (hC : CT 28 M T) (h : Fr [42, 43] M M') (hR : RwG 42 2 M' R) : CT 28 M' (tStr T, tRow T, R, tLok T, tVn T, tVo T) := by
  obtain ⟨c0, c1, c2, c3, c4, c5⟩ := hC
  have e : ∀ c', c' ≠ 42 → c' ≠ 43 → M' c' = M c' := fun c' h1 h2 => h c' (by simp only [List.mem_cons, List.not_mem_nil, or_false]; omega)
  unfold RwG at c1 c2 c3 c4 c5
  refine ⟨?_, ?_, hR, ?_, ?_, ?_⟩
  · rw [e (28 + 10) (by omega) (by omega), e (28 + 11) (by omega) (by omega)]; exact c0
  · unfold RwG
    rw [e (28 + 12) (by omega) (by omega), e (28 + 12 + 1) (by omega) (by omega)]; exact c1
  · unfold RwG
    rw [e (28 + 16) (by omega) (by omega), e (28 + 16 + 1) (by omega) (by omega)]; exact c3
  · unfold RwG
    rw [e (28 + 18) (by omega) (by omega), e (28 + 18 + 1) (by omega) (by omega)]; exact c4
  · unfold RwG
    rw [e (28 + 20) (by omega) (by omega), e (28 + 20 + 1) (by omega) (by omega)]; exact c5
theorem CT_lok {M' : mM} {R : Rw} (hC : CT 28 M T) (h : Fr [44, 45] M M') (hR : RwG 44 1 M' R) : CT 28 M' (tStr T, tRow T, tWrd T, R, tVn T, tVo T) := by
  obtain ⟨c0, c1, c2, c3, c4, c5⟩ := hC
  have e : ∀ c', c' ≠ 44 → c' ≠ 45 → M' c' = M c' := fun c' h1 h2 => h c' (by simp only [List.mem_cons, List.not_mem_nil, or_false]; omega)
  unfold RwG at c1 c2 c3 c4 c5
  refine ⟨?_, ?_, ?_, hR, ?_, ?_⟩
  · rw [e (28 + 10) (by omega) (by omega), e (28 + 11) (by omega) (by omega)]; exact c0
  · unfold RwG
    rw [e (28 + 12) (by omega) (by omega), e (28 + 12 + 1) (by omega) (by omega)]; exact c1
  · unfold RwG
    rw [e (28 + 14) (by omega) (by omega), e (28 + 14 + 1) (by omega) (by omega)]; exact c2
  · unfold RwG
    rw [e (28 + 18) (by omega) (by omega), e (28 + 18 + 1) (by omega) (by omega)]; exact c4
  · unfold RwG
    rw [e (28 + 20) (by omega) (by omega), e (28 + 20 + 1) (by omega) (by omega)]; exact c5
theorem CT_vn {M' : mM} {R : Rw} (hC : CT 28 M T) (h : Fr [46, 47] M M') (hR : RwG 46 2 M' R) : CT 28 M' (tStr T, tRow T, tWrd T, tLok T, R, tVo T) := by
  obtain ⟨c0, c1, c2, c3, c4, c5⟩ := hC
  have e : ∀ c', c' ≠ 46 → c' ≠ 47 → M' c' = M c' := fun c' h1 h2 => h c' (by simp only [List.mem_cons, List.not_mem_nil, or_false]; omega)
  unfold RwG at c1 c2 c3 c4 c5
  refine ⟨?_, ?_, ?_, ?_, hR, ?_⟩
  · rw [e (28 + 10) (by omega) (by omega), e (28 + 11) (by omega) (by omega)]; exact c0
  · unfold RwG
    rw [e (28 + 12) (by omega) (by omega), e (28 + 12 + 1) (by omega) (by omega)]; exact c1
  · unfold RwG
    rw [e (28 + 14) (by omega) (by omega), e (28 + 14 + 1) (by omega) (by omega)]; exact c2
  · unfold RwG
    rw [e (28 + 16) (by omega) (by omega), e (28 + 16 + 1) (by omega) (by omega)]; exact c3
  · unfold RwG
    rw [e (28 + 20) (by omega) (by omega), e (28 + 20 + 1) (by omega) (by omega)]; exact c5
theorem CT_vo {M' : mM} {R : Rw} (hC : CT 28 M T) (h : Fr [48, 49] M M') (hR : RwG 48 2 M' R) : CT 28 M' (tStr T, tRow T, tWrd T, tLok T, tVn T, R) := by
  obtain ⟨c0, c1, c2, c3, c4, c5⟩ := hC
  have e : ∀ c', c' ≠ 48 → c' ≠ 49 → M' c' = M c' := fun c' h1 h2 => h c' (by simp only [List.mem_cons, List.not_mem_nil, or_false]; omega)
  unfold RwG at c1 c2 c3 c4 c5
  refine ⟨?_, ?_, ?_, ?_, ?_, hR⟩
  · rw [e (28 + 10) (by omega) (by omega), e (28 + 11) (by omega) (by omega)]; exact c0
  · unfold RwG
    rw [e (28 + 12) (by omega) (by omega), e (28 + 12 + 1) (by omega) (by omega)]; exact c1
  · unfold RwG
    rw [e (28 + 14) (by omega) (by omega), e (28 + 14 + 1) (by omega) (by omega)]; exact c2
  · unfold RwG
    rw [e (28 + 16) (by omega) (by omega), e (28 + 16 + 1) (by omega) (by omega)]; exact c3
  · unfold RwG
    rw [e (28 + 18) (by omega) (by omega), e (28 + 18 + 1) (by omega) (by omega)]; exact c4
/-- the model's rows, one of them new -/
theorem MT_row {N' : mM} {R : Rw} (hM : MT N T) (h : ∀ c', c' ∉ [312, 333] → N' c' = N c') (h0 : ∀ j, j ≠ 39 → N' 312 j = N 312 j) (h1 : N' 312 39 = nI R.1) (h2 : ∀ j, j < R.1 → N' 333 j = R.2 j 0) : MT N' (tStr T, R, tWrd T, tLok T, tVn T, tVo T) := by
  obtain ⟨m0, m1, m2, m3, m4, m5⟩ := hM
  have e : ∀ c', c' ≠ 312 → c' ≠ 333 → N' c' = N c' := fun c' a b => h c' (by simp only [List.mem_cons, List.not_mem_nil, or_false]; omega)
  refine ⟨?_, ⟨h1, h2⟩, ?_, ?_, ?_, ?_⟩
  · rw [h0 34 (by omega), e 329 (by omega) (by omega)]; exact m0
  · rw [h0 42 (by omega), e 335 (by omega) (by omega), e 336 (by omega) (by omega)]; exact m2
  · rw [h0 45 (by omega), e 337 (by omega) (by omega)]; exact m3
  · rw [e 338 (by omega) (by omega), e 339 (by omega) (by omega)]; exact m4
  · rw [e 338 (by omega) (by omega), e 339 (by omega) (by omega)]; exact m5
theorem MT_wrd {N' : mM} {R : Rw} (hM : MT N T) (h : ∀ c', c' ∉ [312, 335, 336] → N' c' = N c') (h0 : ∀ j, j ≠ 42 → N' 312 j = N 312 j) (h1 : N' 312 42 = nI R.1) (h2 : ∀ j, j < R.1 → N' 335 j = R.2 j 0 ∧ N' 336 j = R.2 j 1) : MT N' (tStr T, tRow T, R, tLok T, tVn T, tVo T) := by
  obtain ⟨m0, m1, m2, m3, m4, m5⟩ := hM
  have e : ∀ c', c' ≠ 312 → c' ≠ 335 → c' ≠ 336 → N' c' = N c' := fun c' a b d => h c' (by simp only [List.mem_cons, List.not_mem_nil, or_false]; omega)
  refine ⟨?_, ?_, ⟨h1, h2⟩, ?_, ?_, ?_⟩
  · rw [h0 34 (by omega), e 329 (by omega) (by omega) (by omega)]; exact m0
  · rw [h0 39 (by omega), e 333 (by omega) (by omega) (by omega)]; exact m1
  · rw [h0 45 (by omega), e 337 (by omega) (by omega) (by omega)]; exact m3
  · rw [e 338 (by omega) (by omega) (by omega), e 339 (by omega) (by omega) (by omega)]; exact m4
  · rw [e 338 (by omega) (by omega) (by omega), e 339 (by omega) (by omega) (by omega)]; exact m5
theorem MT_lok {N' : mM} {R : Rw} (hM : MT N T) (h : ∀ c', c' ∉ [312, 337] → N' c' = N c') (h0 : ∀ j, j ≠ 45 → N' 312 j = N 312 j) (h1 : N' 312 45 = nI R.1) (h2 : ∀ j, j < R.1 → N' 337 j = R.2 j 0) : MT N' (tStr T, tRow T, tWrd T, R, tVn T, tVo T) := by
  obtain ⟨m0, m1, m2, m3, m4, m5⟩ := hM
  have e : ∀ c', c' ≠ 312 → c' ≠ 337 → N' c' = N c' := fun c' a b => h c' (by simp only [List.mem_cons, List.not_mem_nil, or_false]; omega)
  refine ⟨?_, ?_, ?_, ⟨h1, h2⟩, ?_, ?_⟩
  · rw [h0 34 (by omega), e 329 (by omega) (by omega)]; exact m0
  · rw [h0 39 (by omega), e 333 (by omega) (by omega)]; exact m1
  · rw [h0 42 (by omega), e 335 (by omega) (by omega), e 336 (by omega) (by omega)]; exact m2
  · rw [e 338 (by omega) (by omega), e 339 (by omega) (by omega)]; exact m4
  · rw [e 338 (by omega) (by omega), e 339 (by omega) (by omega)]; exact m5
theorem MT_vns {N' : mM} {R R' : Rw} (hM : MT N T) (h : ∀ c', c' ∉ [338, 339] → N' c' = N c') (h1 : N' 338 0 = nI R.1 ∧ ∀ s, s < 8 → N' 339 s = vMask R.2 R.1 s) (h2 : N' 338 1 = nI R'.1 ∧ ∀ s, s < 8 → N' 339 (8 + s) = vMask R'.2 R'.1 s) : MT N' (tStr T, tRow T, tWrd T, tLok T, R, R') := by
  obtain ⟨m0, m1, m2, m3, m4, m5⟩ := hM
  have e : ∀ c', c' ≠ 338 → c' ≠ 339 → N' c' = N c' := fun c' a b => h c' (by simp only [List.mem_cons, List.not_mem_nil, or_false]; omega)
  refine ⟨?_, ?_, ?_, ?_, h1, h2⟩
  · rw [e 312 (by omega) (by omega), e 329 (by omega) (by omega)]; exact m0
  · rw [e 312 (by omega) (by omega), e 333 (by omega) (by omega)]; exact m1
  · rw [e 312 (by omega) (by omega), e 335 (by omega) (by omega), e 336 (by omega) (by omega)]; exact m2
  · rw [e 312 (by omega) (by omega), e 337 (by omega) (by omega)]; exact m3

theorem upC {M : mM} {c j : Nat} {x : Int32} {c' : Nat} (h : c' ≠ c) : up M c j x c' = M c' := by
  funext j'
  exact up_neC _ _ _ _ h
theorem b_kind (hT : okT T) (hC : CT 28 M T) (hM : MT N T) (v : Int32) : ∃ r M' N', F_Rec_kind v M = some (r, M') ∧ F_Mod_kind v N = some (r, N') ∧ OKT 28 [40, 41] M M' N N' := by
  obtain ⟨t1, t2, t3, t4, t5, t6⟩ := id hT
  obtain ⟨c1, c2, c3, c4, c5, c6⟩ := id hC
  obtain ⟨m1, m2, m3, m4, m5, m6⟩ := id hM
  have same : OKT 28 [40, 41] M M N N := ⟨T, hT, hC, hM, Fr_rf _ _, fun _ _ => rfl, fun _ _ _ _ => rfl⟩
  have h8 := t2.1
  unfold F_Rec_kind F_Mod_kind
  by_cases hv : v = -1
  · rw [decide_eq_true hv, tell_none, ob2_ok, if_pos hv, ob1_ok]
    have f1 : Fr [40, 41] M (up M 40 3 (nI 0)) := Fr_up (Fr_rf _ _) (by simp)
    refine ⟨_, _, _, rfl, rfl, (tStr T, (0, (tRow T).2), tWrd T, tLok T, tVn T, tVo T), ⟨t1, okX_0, t3, t4, t5, t6⟩, CT_row hC f1 (RwG_0 (up_same _ _ _ _)), MT_row hM (fun c' h => ?_) (fun j h => up_neJ _ _ _ h) (up_same _ _ _ _) (fun j hj => absurd hj (Nat.not_lt_zero j)), f1, fun c' h => ?_, fun j h1 h2 h3 => up_neJ _ _ _ h1⟩
    · simp only [List.mem_cons, List.not_mem_nil, or_false] at h
      exact upC (by omega)
    · simp only [List.mem_cons, List.not_mem_nil, or_false] at h
      exact upC (by omega)
  · rw [decide_eq_false hv, if_neg hv, isIn_eq, m2.1]
    by_cases hw : F_Rec_within v (nI 0) (nI 5) = true
    · by_cases hn : (tRow T).1 < 8
      · obtain ⟨M', a1, a2, a3, a4⟩ := tell_yes (M := M) (r := 40) (wd := 1) (mo := 8) (a := v) (b := nI 0) c2.1 hn (Or.inl rfl) (by omega)
        rw [hw, a1, ob2_ok, if_neg (fun h => h.elim (fun h => h rfl) (eF (by omega) (by omega) (by omega))), wa_ok hn (by omega), ob1_ok, up_neC _ _ _ _ (by omega), m2.1, nadd, ob1_ok, up_same]
        refine ⟨_, M', _, rfl, rfl, (tStr T, rAdd (tRow T) (fun _ => v), tWrd T, tLok T, tVn T, tVo T), ⟨t1, okX_add t2 hn (bt_of (by omega) (by omega) hw), t3, t4, t5, t6⟩, CT_row hC a2 (RwG_add c2 a3 (fun j k hk => by rw [a4 j k hk, show k = 0 by omega]; rfl)), MT_row hM (fun c' h => ?_) (fun j h => by rw [up_neJ _ _ _ h, up_neC _ _ _ _ (by omega)]) (up_same _ _ _ _) (fun j hj => ?_), a2, fun c' h => ?_, fun j h1 h2 h3 => by rw [up_neJ _ _ _ h1, up_neC _ _ _ _ (by omega)]⟩
        · simp only [List.mem_cons, List.not_mem_nil, or_false] at h
          rw [upC (by omega), upC (by omega)]
        · have hj' : j < (tRow T).1 + 1 := hj
          rw [up_neC _ _ _ _ (by omega)]
          show up N 333 (tRow T).1 v 333 j = (if j = (tRow T).1 then (fun _ => v) else (tRow T).2 j) 0
          by_cases ej : j = (tRow T).1
          · rw [if_pos ej, ej, up_same]
          · rw [if_neg ej, up_neJ _ _ _ ej]
            exact m2.2 j (by omega)
        · simp only [List.mem_cons, List.not_mem_nil, or_false] at h
          rw [upC (by omega), upC (by omega)]
      · rw [tell_no c2.1 (by omega) (by omega) (Or.inr (by omega)), ob2_ok, if_pos (Or.inr (by rw [show (tRow T).1 = 8 by omega]))]
        exact ⟨_, M, N, rfl, rfl, same⟩
    · have hw' : F_Rec_within v (nI 0) (nI 5) = false := Bool.not_eq_true _ ▸ hw
      rw [hw', tell_no c2.1 (by omega) (by omega) (Or.inl rfl), ob2_ok, if_pos (Or.inl Bool.false_ne_true)]
      exact ⟨_, M, N, rfl, rfl, same⟩
theorem b_sight (hT : okT T) (hC : CT 28 M T) (hM : MT N T) (v : Int32) : ∃ r M' N', F_Rec_sight v M = some (r, M') ∧ F_Mod_sight v N = some (r, N') ∧ OKT 28 [44, 45] M M' N N' := by
  obtain ⟨t1, t2, t3, t4, t5, t6⟩ := id hT
  obtain ⟨c1, c2, c3, c4, c5, c6⟩ := id hC
  obtain ⟨m1, m2, m3, m4, m5, m6⟩ := id hM
  have same : OKT 28 [44, 45] M M N N := ⟨T, hT, hC, hM, Fr_rf _ _, fun _ _ => rfl, fun _ _ _ _ => rfl⟩
  have h8 := t4.1
  unfold F_Rec_sight F_Mod_sight
  by_cases hv : v = -1
  · rw [decide_eq_true hv, tell_none, ob2_ok, if_pos hv, ob1_ok]
    have f1 : Fr [44, 45] M (up M 44 3 (nI 0)) := Fr_up (Fr_rf _ _) (by simp)
    refine ⟨_, _, _, rfl, rfl, (tStr T, tRow T, tWrd T, (0, (tLok T).2), tVn T, tVo T), ⟨t1, t2, t3, okX_0, t5, t6⟩, CT_lok hC f1 (RwG_0 (up_same _ _ _ _)), MT_lok hM (fun c' h => ?_) (fun j h => up_neJ _ _ _ h) (up_same _ _ _ _) (fun j hj => absurd hj (Nat.not_lt_zero j)), f1, fun c' h => ?_, fun j h1 h2 h3 => up_neJ _ _ _ h3⟩
    · simp only [List.mem_cons, List.not_mem_nil, or_false] at h
      exact upC (by omega)
    · simp only [List.mem_cons, List.not_mem_nil, or_false] at h
      exact upC (by omega)
  · rw [decide_eq_false hv, if_neg hv, isIn_eq, m4.1]
    by_cases hw : F_Rec_within v (nI 0) (nI 4095) = true
    · by_cases hn : (tLok T).1 < 8
      · obtain ⟨M', a1, a2, a3, a4⟩ := tell_yes (M := M) (r := 44) (wd := 1) (mo := 8) (a := v) (b := nI 0) c4.1 hn (Or.inl rfl) (by omega)
        rw [hw, a1, ob2_ok, if_neg (fun h => h.elim (fun h => h rfl) (eF (by omega) (by omega) (by omega))), wa_ok hn (by omega), ob1_ok, up_neC _ _ _ _ (by omega), m4.1, nadd, ob1_ok, up_same]
        refine ⟨_, M', _, rfl, rfl, (tStr T, tRow T, tWrd T, rAdd (tLok T) (fun _ => v), tVn T, tVo T), ⟨t1, t2, t3, okX_add t4 hn (bt_of (by omega) (by omega) hw), t5, t6⟩, CT_lok hC a2 (RwG_add c4 a3 (fun j k hk => by rw [a4 j k hk, show k = 0 by omega]; rfl)), MT_lok hM (fun c' h => ?_) (fun j h => by rw [up_neJ _ _ _ h, up_neC _ _ _ _ (by omega)]) (up_same _ _ _ _) (fun j hj => ?_), a2, fun c' h => ?_, fun j h1 h2 h3 => by rw [up_neJ _ _ _ h3, up_neC _ _ _ _ (by omega)]⟩
        · simp only [List.mem_cons, List.not_mem_nil, or_false] at h
          rw [upC (by omega), upC (by omega)]
        · have hj' : j < (tLok T).1 + 1 := hj
          rw [up_neC _ _ _ _ (by omega)]
          show up N 337 (tLok T).1 v 337 j = (if j = (tLok T).1 then (fun _ => v) else (tLok T).2 j) 0
          by_cases ej : j = (tLok T).1
          · rw [if_pos ej, ej, up_same]
          · rw [if_neg ej, up_neJ _ _ _ ej]
            exact m4.2 j (by omega)
        · simp only [List.mem_cons, List.not_mem_nil, or_false] at h
          rw [upC (by omega), upC (by omega)]
      · rw [tell_no c4.1 (by omega) (by omega) (Or.inr (by omega)), ob2_ok, if_pos (Or.inr (by rw [show (tLok T).1 = 8 by omega]))]
        exact ⟨_, M, N, rfl, rfl, same⟩
    · have hw' : F_Rec_within v (nI 0) (nI 4095) = false := Bool.not_eq_true _ ▸ hw
      rw [hw', tell_no c4.1 (by omega) (by omega) (Or.inl rfl), ob2_ok, if_pos (Or.inl Bool.false_ne_true)]
      exact ⟨_, M, N, rfl, rfl, same⟩
theorem b_words (hT : okT T) (hC : CT 28 M T) (hM : MT N T) (l w : Int32) : ∃ r M' N', F_Rec_words l w M = some (r, M') ∧ F_Mod_words l w N = some (r, N') ∧ OKT 28 [42, 43] M M' N N' := by
  obtain ⟨t1, t2, t3, t4, t5, t6⟩ := id hT
  obtain ⟨c1, c2, c3, c4, c5, c6⟩ := id hC
  obtain ⟨m1, m2, m3, m4, m5, m6⟩ := id hM
  have same : OKT 28 [42, 43] M M N N := ⟨T, hT, hC, hM, Fr_rf _ _, fun _ _ => rfl, fun _ _ _ _ => rfl⟩
  have h8 := t3.1
  unfold F_Rec_words F_Mod_words
  by_cases hv : l = -1
  · rw [decide_eq_true hv, tell_none, ob2_ok, if_pos hv, ob1_ok]
    have f1 : Fr [42, 43] M (up M 42 3 (nI 0)) := Fr_up (Fr_rf _ _) (by simp)
    refine ⟨_, _, _, rfl, rfl, (tStr T, tRow T, (0, (tWrd T).2), tLok T, tVn T, tVo T), ⟨t1, t2, okX_0, t4, t5, t6⟩, CT_wrd hC f1 (RwG_0 (up_same _ _ _ _)), MT_wrd hM (fun c' h => ?_) (fun j h => up_neJ _ _ _ h) (up_same _ _ _ _) (fun j hj => absurd hj (Nat.not_lt_zero j)), f1, fun c' h => ?_, fun j h1 h2 h3 => up_neJ _ _ _ h2⟩
    · simp only [List.mem_cons, List.not_mem_nil, or_false] at h
      exact upC (by omega)
    · simp only [List.mem_cons, List.not_mem_nil, or_false] at h
      exact upC (by omega)
  · rw [decide_eq_false hv, if_neg hv, isIn_eq, isIn_eq, m3.1]
    by_cases hw : F_Rec_within l (nI 1) (nI 30) = true ∧ F_Rec_within w (nI 0) (nI 99) = true
    · by_cases hn : (tWrd T).1 < 6
      · obtain ⟨M', a1, a2, a3, a4⟩ := tell_yes (M := M) (r := 42) (wd := 2) (mo := 6) (a := l) (b := w) c3.1 hn (Or.inr rfl) (by omega)
        rw [decide_eq_true hw, a1, ob2_ok, if_neg (fun h => h.elim (fun h => h.elim (fun h => h hw.1) (fun h => h hw.2)) (eF (by omega) (by omega) (by omega))), wa_ok hn (by omega), ob1_ok, up_neC _ _ _ _ (by omega), m3.1, wa_ok hn (by omega), ob1_ok, up_neC _ _ _ _ (by omega), up_neC _ _ _ _ (by omega), m3.1, nadd, ob1_ok, up_same]
        refine ⟨_, M', _, rfl, rfl, (tStr T, tRow T, rAdd (tWrd T) (fun k => if k = 0 then l else w), tLok T, tVn T, tVo T), ⟨t1, t2, okX_add t3 hn ⟨bt_of (by omega) (by omega) hw.1, bt_of (by omega) (by omega) hw.2⟩, t4, t5, t6⟩, CT_wrd hC a2 (RwG_add c3 a3 (fun j k hk => ?_)), MT_wrd hM (fun c' h => ?_) (fun j h => by rw [up_neJ _ _ _ h, up_neC _ _ _ _ (by omega), up_neC _ _ _ _ (by omega)]) (up_same _ _ _ _) (fun j hj => ?_), a2, fun c' h => ?_, fun j h1 h2 h3 => by rw [up_neJ _ _ _ h2, up_neC _ _ _ _ (by omega), up_neC _ _ _ _ (by omega)]⟩
        · rw [a4 j k hk]
          have : k = 0 ∨ k = 1 := by omega
          rcases this with rfl | rfl
          · rfl
          · rfl
        · simp only [List.mem_cons, List.not_mem_nil, or_false] at h
          rw [upC (by omega), upC (by omega), upC (by omega)]
        · have hj' : j < (tWrd T).1 + 1 := hj
          rw [upC (c' := 335) (by omega), upC (c' := 335) (by omega), upC (c' := 336) (by omega)]
          show up N 335 (tWrd T).1 l 335 j = (if j = (tWrd T).1 then (fun k => if k = 0 then l else w) else (tWrd T).2 j) 0 ∧ up (up N 335 (tWrd T).1 l) 336 (tWrd T).1 w 336 j = (if j = (tWrd T).1 then (fun k => if k = 0 then l else w) else (tWrd T).2 j) 1
          by_cases ej : j = (tWrd T).1
          · rw [if_pos ej, ej, up_same, up_same]
            exact ⟨rfl, rfl⟩
          · rw [if_neg ej, up_neJ _ _ _ ej, up_neJ _ _ _ ej, up_neC _ _ _ _ (by omega)]
            exact m3.2 j (by omega)
        · simp only [List.mem_cons, List.not_mem_nil, or_false] at h
          rw [upC (by omega), upC (by omega), upC (by omega)]
      · rw [tell_no c3.1 (by omega) (by omega) (Or.inr (by omega)), ob2_ok, if_pos (Or.inr (by rw [show (tWrd T).1 = 6 by omega]))]
        exact ⟨_, M, N, rfl, rfl, same⟩
    · have hw' : ¬ F_Rec_within l (nI 1) (nI 30) = true ∨ ¬ F_Rec_within w (nI 0) (nI 99) = true := by
        by_cases h : F_Rec_within l (nI 1) (nI 30) = true
        · exact Or.inr (fun h2 => hw ⟨h, h2⟩)
        · exact Or.inl h
      rw [decide_eq_false hw, tell_no c3.1 (by omega) (by omega) (Or.inl rfl), ob2_ok, if_pos (Or.inl hw')]
      exact ⟨_, M, N, rfl, rfl, same⟩
end S57
