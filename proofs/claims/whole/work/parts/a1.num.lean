/-! ===== faults, numbers, marks, words taken: both ways ===== -/
section SA1
variable {z n t i : Nat} {M N M' N' : mM} {tp : Nat → Nat}
/-- what the class's reading of a line may change; the model's, but for its drafts -/
def FrK (M M' : mM) : Prop := (∀ c', c' ≠ 100 → c' ≠ 108 → M' c' = M c') ∧ ∀ j, j ≠ 2 → j ≠ 3 → j ≠ 11 → M' 100 j = M 100 j
def FrE (N N' : mM) : Prop := (∀ c', c' ≠ 312 → N' c' = N c') ∧ ∀ j, ¬ (9 ≤ j ∧ j ≤ 12) → j ≠ 26 → j ≠ 27 → N' 312 j = N 312 j
theorem FrK_tr {M1 : mM} (h : FrK M M1) (h' : FrK M1 M') : FrK M M' := ⟨fun c' a b => (h'.1 c' a b).trans (h.1 c' a b), fun j a b d => (h'.2 j a b d).trans (h.2 j a b d)⟩
theorem FrE_tr {N1 : mM} (h : FrE N N1) (h' : FrE N1 N') : FrE N N' := ⟨fun c' a => (h'.1 c' a).trans (h.1 c' a), fun j a b d => (h'.2 j a b d).trans (h.2 j a b d)⟩
theorem FrE_of (h : FrR N N') : FrE N N' := ⟨h.1, fun j a _ _ => h.2 j (by omega) (by omega) (by omega) (by omega)⟩
/-- both tell the same fault -/
def FQ (M' N' : mM) : Prop := M' 100 2 = N' 312 26 ∧ M' 100 3 = N' 312 27
theorem pz_fail (h : PZ tp n t i M N) (k : Int32) : ∃ M' N', F_Reader_fail k M = some (false, M') ∧ F_Mod_errs k N = some (-1, N') ∧ FQ M' N' ∧ FrK M M' ∧ FrE N N' := by
  obtain ⟨⟨s1, s2, s3, s4, s5⟩, h2, h3, ⟨m1, m2, m3, m4⟩, h5, h6, h7⟩ := id h
  have hp := (s5 i h2).2.1
  refine ⟨up (up M 100 2 k) 100 3 (nI (psN tp n i)), up (up N 312 26 k) 312 27 (nI (psN tp n i)), ?_, ?_, ⟨?_, ?_⟩, ⟨fun c' a b => by rw [upC a, upC a], fun j a b d => by rw [up_neJ _ _ _ b, up_neJ _ _ _ a]⟩, fun c' a => by rw [upC a, upC a], fun j a b d => by rw [up_neJ _ _ _ d, up_neJ _ _ _ b]⟩
  · unfold F_Reader_fail
    rw [ob1_ok, up_neJ _ _ _ (show 11 ≠ 2 by omega), h3, ra_ok (by omega) (by omega), ob1_ok, up_neC _ _ _ _ (by omega), hp, ob1_ok]
  · unfold F_Mod_errs
    rw [ob1_ok, up_neJ _ _ _ (show 10 ≠ 26 by omega), m2, ob1_ok]
  · rw [up_neJ _ _ _ (by omega), up_same, up_neJ _ _ _ (by omega), up_same]
  · rw [up_same, up_same]
/-- the model's kind -/
theorem pz_mkind (h : PZ tp n t i M N) : (N 312 11 = nI 3 ↔ (tkA tp n i).1 = 2) ∧ (N 312 11 = nI 2 ↔ (tkA tp n i).1 = 3) ∧ (N 312 11 = nI 0 ↔ (tkA tp n i).1 = 0) := by
  have hr := (PZ_r h).1
  obtain ⟨-, -, -, ⟨m1, -⟩, -⟩ := id h
  obtain ⟨k, hk⟩ : ∃ k, k = (tkA tp n i).1 := ⟨_, rfl⟩
  rw [← hk] at hr m1 ⊢
  rw [m1]
  have hc : k = 0 ∨ k = 1 ∨ k = 2 ∨ k = 3 ∨ k = 4 := by omega
  rcases hc with rfl | rfl | rfl | rfl | rfl <;> decide
theorem pz_mval (h : PZ tp n t i M N) (hk : 2 ≤ (tkA tp n i).1) : N 312 12 = nI (if (tkA tp n i).1 = 3 then pmW (tkA tp n i).2.1 else (tkA tp n i).2.1) := h.2.2.2.1.2.2.2 hk
theorem pmW_lt : ∀ k, k < 29 → pmW k < 29 := fun k hk => (samW k hk).1
theorem pz_mWord (h : PZ tp n t i M N) {w : Nat} (hw : w < 100) : F_Mod_isWord (nI w) N = decide ((tkA tp n i).1 = 3 ∧ pmW (tkA tp n i).2.1 = w) := by
  have hr := PZ_r h
  unfold F_Mod_isWord
  apply decide_eq_decide.mpr
  rw [(pz_mkind h).2.1]
  constructor
  · rintro ⟨h1, h2⟩
    have hv := hr.2.2.2.1 h1
    have hp := pmW_lt _ hv
    rw [pz_mval h (by omega), if_pos h1] at h2
    exact ⟨h1, (nI_inj (by omega) (by omega)).mp h2⟩
  · rintro ⟨h1, h2⟩
    rw [pz_mval h (by omega), if_pos h1, h2]
    exact ⟨h1, rfl⟩
/-- what is at hand is kept in a column, and both go on -/
theorem pz_keep (hz : 1000 ≤ z) (h : PZ tp n t i M N) (hk : 2 ≤ (tkA tp n i).1) {col : Nat} (hc : col < 5) : ∃ M' N', F_Reader_keep (nI col) M = some (true, M') ∧ F_Mod_reads z N = some N' ∧ PZ tp n t (min (i + 1) t) M' N' ∧ M' 108 col = nI (tkA tp n i).2.1 ∧ (∀ j, j ≠ col → M' 108 j = M 108 j) ∧ FrK M M' ∧ FrE N N' := by
  have h1 : PZ tp n t i (up M 108 col (nI (tkA tp n i).2.1)) N := PZ_cg h (fun c' hc => upC (by omega)) (fun j hj => up_neC _ _ _ _ (by omega)) (fun _ _ => rfl) (fun _ _ _ => rfl)
  obtain ⟨M', N', g1, g2, g3, g4, g5, g6⟩ := pz_step hz h1
  refine ⟨M', N', ?_, g2, g3, by rw [g4 108 (by omega), up_same], fun j hj => by rw [g4 108 (by omega), up_neJ _ _ _ hj], ⟨fun c' a b => by rw [g4 c' a, upC b], fun j a b d => by rw [g5 j d, up_neC _ _ _ _ (by omega)]⟩, FrE_of g6⟩
  unfold F_Reader_keep
  rw [pz_val h hk, ob1_ok, wa_ok (by omega) (by omega), ob1_ok, g1, ob2_ok]
/-- a number, both ways -/
theorem pz_num (hz : 1000 ≤ z) (h : PZ tp n t i M N) {lo hi col : Nat} (hh : hi < 10000) (hl : lo ≤ hi) (hc : col < 5) : ∃ M' N', FrK M M' ∧ FrE N N' ∧
    ((F_Reader_takeNumber (nI lo) (nI hi) (nI col) M = some (false, M') ∧ F_Mod_readNumber z (nI lo) (nI hi) N = some (-1, N') ∧ FQ M' N') ∨
     (∃ v, lo ≤ v ∧ v ≤ hi ∧ F_Reader_takeNumber (nI lo) (nI hi) (nI col) M = some (true, M') ∧ F_Mod_readNumber z (nI lo) (nI hi) N = some (nI v, N') ∧ PZ tp n t (min (i + 1) t) M' N' ∧ M' 108 col = nI v ∧ ∀ j, j ≠ col → M' 108 j = M 108 j)) := by
  have hr := PZ_r h
  unfold F_Reader_takeNumber F_Mod_readNumber
  rw [pz_kind h, ob1_ok]
  by_cases h2 : (tkA tp n i).1 = 2
  · have hv := hr.2.2.1 h2
    have hmv := pz_mval h (by omega)
    rw [if_neg (by omega)] at hmv
    rw [h2, decide_eq_false (fun h => h rfl), ob1_ok, if_neg Bool.false_ne_true, pz_val h (by omega), ob1_ok, ob1_ok, if_neg (show ¬ ¬ N 312 11 = nI 3 from fun h' => h' ((pz_mkind h).1.mpr h2)), hmv, isIn_eq]
    have hcond : (if decide (nI (tkA tp n i).2.1 < nI lo) = true then some true else ob1 (some (nI (tkA tp n i).2.1)) fun v45 => some (decide (nI hi < v45))) = some (!F_Rec_within (nI (tkA tp n i).2.1) (nI lo) (nI hi)) := by
      unfold F_Rec_within
      by_cases a1 : nI (tkA tp n i).2.1 < nI lo
      · rw [decide_eq_true a1, if_pos rfl, decide_eq_false (fun h => h.1 a1)]
        rfl
      · rw [decide_eq_false a1, if_neg Bool.false_ne_true, ob1_ok]
        by_cases a2 : nI hi < nI (tkA tp n i).2.1
        · rw [decide_eq_true a2, decide_eq_false (fun h => h.2 a2)]
          rfl
        · rw [decide_eq_false a2, decide_eq_true ⟨a1, a2⟩]
          rfl
    rw [hcond, ob1_ok]
    cases hw : F_Rec_within (nI (tkA tp n i).2.1) (nI lo) (nI hi) with
    | true =>
      obtain ⟨M', N', g1, g2, g3, g4, g5, g6, g7⟩ := pz_keep (z := z) hz h (by omega) hc
      obtain ⟨v, v1, v2, ev⟩ := rng_n (by omega) (by omega) (of_decide_eq_true hw)
      have e := (nI_inj (by omega) (by omega)).mp ev
      refine ⟨M', N', g6, g7, Or.inr ⟨(tkA tp n i).2.1, by omega, by omega, ?_, ?_, g3, g4, g5⟩⟩
      · rw [if_neg (show ¬ (!true) = true from Bool.false_ne_true), g1, ob2_ok]
      · rw [if_neg (show ¬ ¬ true = true from fun h => h rfl), g2, ob1_ok]
    | false =>
      obtain ⟨M', N', g1, g2, g3, g4, g5⟩ := pz_fail h (nI 2)
      refine ⟨M', N', g4, g5, Or.inl ⟨?_, ?_, g3⟩⟩
      · rw [if_pos (show (!false) = true from rfl), g1, ob2_ok]
      · rw [if_pos (show ¬ false = true from Bool.false_ne_true), g2, ob2_ok]
  · obtain ⟨M', N', g1, g2, g3, g4, g5⟩ := pz_fail h (nI 1)
    refine ⟨M', N', g4, g5, Or.inl ⟨?_, ?_, g3⟩⟩
    · rw [decide_eq_true (eF h2 (by omega) (by omega)), ob1_ok, if_pos rfl, g1, ob2_ok]
    · rw [if_pos (fun h' => h2 ((pz_mkind h).1.mp h')), g2, ob2_ok]
/-- a mark, both ways -/
theorem pz_mark (hz : 1000 ≤ z) (h : PZ tp n t i M N) {s : Nat} (hs : s < 256) : ∃ M' N', FrK M M' ∧ FrE N N' ∧
    ((F_Reader_takeSign (nI s) M = some (false, M') ∧ F_Mod_readMark z (nI s) N = some (-1, N') ∧ FQ M' N') ∨
     (F_Reader_takeSign (nI s) M = some (true, M') ∧ F_Mod_readMark z (nI s) N = some (nI 0, N') ∧ PZ tp n t (min (i + 1) t) M' N' ∧ M' 108 = M 108)) := by
  obtain ⟨q1, q2⟩ := pz_isSign h hs
  unfold F_Reader_takeSign F_Mod_readMark
  rw [q1, q2, ob1_ok, ob1_ok, ob1_ok]
  cases hd : decide ((tkA tp n i).1 = 4 ∧ (tkA tp n i).2.1 = s) with
  | true =>
    obtain ⟨M', N', g1, g2, g3, g4, g5, g6⟩ := pz_step (z := z) hz h
    refine ⟨M', N', ⟨fun c' a b => g4 c' a, fun j a b d => g5 j d⟩, FrE_of g6, Or.inr ⟨?_, ?_, g3, g4 108 (by omega)⟩⟩
    · rw [if_neg (show ¬ (!true) = true from Bool.false_ne_true), g1, ob2_ok]
    · rw [if_neg (show ¬ ¬ true = true from fun h => h rfl), g2, ob1_ok]
  | false =>
    obtain ⟨M', N', g1, g2, g3, g4, g5⟩ := pz_fail h (nI 1)
    refine ⟨M', N', g4, g5, Or.inl ⟨?_, ?_, g3⟩⟩
    · rw [if_pos (show (!false) = true from rfl), g1, ob2_ok]
    · rw [if_pos (show ¬ false = true from Bool.false_ne_true), g2, ob2_ok]
end SA1
