/-! ===== a line of a law, both ways ===== -/
def FrL (b : Nat) (M M' : mM) : Prop := (∀ c', c' ≠ 100 → c' ≠ 104 → c' ≠ 108 → M' c' = M c') ∧ (∀ j, j ≠ 2 → j ≠ 3 → j ≠ 6 → j ≠ 11 → M' 100 j = M 100 j) ∧ ∀ j, j < b → M' 104 j = M 104 j
def FrG (k b : Nat) (N N' : mM) : Prop := (∀ c', c' ≠ 312 → ¬ (320 ≤ c' ∧ c' ≤ 326) → N' c' = N c') ∧ (∀ j, ¬ (9 ≤ j ∧ j ≤ 12) → j ≠ 22 → j ≠ 23 → j ≠ 25 → j ≠ 26 → j ≠ 27 → N' 312 j = N 312 j) ∧ (∀ c' j, 320 ≤ c' → c' ≤ 323 → j ≠ 32 + k → N' c' j = N c' j) ∧ ∀ j, j < 800 + b → N' 324 j = N 324 j ∧ N' 325 j = N 325 j
def gEnd (z : Nat) (k_ : Int32) (M35 : mM) : Option (Int32 × mM) :=
    ob1 (wa M35 323 48 ((nI 32) + k_) (M35 312 22)) fun M38 =>
    if ¬ ((F_Mod_isSign (nI 59) M38) = true) then
    ob2 (F_Mod_errs (nI 1) M38) fun v41 M42 =>
    some (v41, M42)
    else
    ob1 (F_Mod_reads z M38) fun M39 =>
    some (nI 0, M39)
def gWhen (z : Nat) (k_ : Int32) (M18 : mM) : Option (Int32 × mM) :=
    if (F_Mod_isWord (nI 3) M18) = true then
    ob1 (F_Mod_reads z M18) fun M44 =>
    ob2 (ob2 (F_Mod_readAny z M44) fun v56 M57 =>
    some (decide (v56 = (-1)), M57)) fun x46 M48 =>
    if x46 = true then
    some ((-1), M48)
    else
    gEnd z k_ M48
    else
    gEnd z k_ M18
def gLaw (z : Nat) (k_ : Int32) (M : mM) : Option (Int32 × mM) :=
    ob1 (wa M 320 48 ((nI 32) + k_) (M 312 12)) fun M2 =>
    ob1 (F_Mod_reads z M2) fun M3 =>
    ob1 (wa M3 321 48 ((nI 32) + k_) (M3 312 22)) fun M6 =>
    ob2 (ob2 (F_Mod_readSum z M6) fun v59 M60 =>
    some (decide (v59 = (-1)), M60)) fun x7 M9 =>
    if x7 = true then
    some ((-1), M9)
    else
    ob1 (wa M9 322 48 ((nI 32) + k_) (M9 312 22)) fun M18 =>
    gWhen z k_ M18
def cEnd (M64 : mM) : Option (Bool × mM) :=
  ob1 (wa M64 108 5 (nI 3) (M64 100 6)) fun M67 =>
  ob2 (F_Reader_takeSign (nI 59) M67) fun v68 M69 =>
  some (v68, M69)
def cWhen (z : Nat) (M30 : mM) : Option (Bool × mM) :=
  ob1 (ob1 (F_Reader_isWord (nI 3) (nI 3) M30) fun v101 =>
  some (v101)) fun x71 =>
  if x71 = true then
  ob2 (F_Reader_step M30) fun v77 M78 =>
  ob2 (ob2 (ob2 (F_Reader_condition z 12 (nI 0) M78) fun v96 M97 =>
  some (v96, M97)) fun x93 M95 => some (!x93, M95)) fun x80 M82 =>
  if x80 = true then
  some (false, M82)
  else
  cEnd M82
  else
  cEnd M30
def cLaw1 (z : Nat) (M3 : mM) : Option (Bool × mM) :=
  ob1 (wa M3 108 5 (nI 1) (M3 100 6)) fun M15 =>
  ob2 (ob2 (ob2 (F_Reader_expression z M15) fun v106 M107 =>
  some (v106, M107)) fun x103 M105 => some (!x103, M105)) fun x16 M18 =>
  if x16 = true then
  some (false, M18)
  else
  ob1 (wa M18 108 5 (nI 2) (M18 100 6)) fun M30 =>
  cWhen z M30
section SD2
variable {z n t i : Nat} {M N M' N' : mM} {tp : Nat → Nat} {d b0 b1 cc cm y yy ym cn s o bk k : Nat} {f g : En → Int32} {fs : Fs} {P : List Int32} {b : Int32}
theorem readLaw_eq : F_Reader_readLaw z M = ob2 (ob2 (ob2 (F_Reader_takeFirst (nI 0) (nI 2) M) fun v112 M113 => some (v112, M113)) fun x109 M111 => some (!x109, M111)) fun x1 M3 => if x1 = true then some (false, M3) else cLaw1 z M3 := rfl
theorem errs_at {k : Int32} : ∃ N', F_Mod_errs k N = some (-1, N') := ⟨_, rfl⟩
theorem law_step : mStep F_Mod_isLineWord (gLaw z) (L_Mod_readLaw_1 z mEnd) mEnd := by
  intro y n_ N
  rw [L_Mod_readLaw_1]
  by_cases h1 : F_Mod_isLineWord N = true
  · rw [if_pos h1, if_pos h1]
    by_cases h2 : n_ = nI 16
    · rw [if_pos h2, if_pos h2]
    · rw [if_neg h2, if_neg h2]
      have e5 : ∀ A : mM, (ob1 (wa A 323 48 ((nI 32) + n_) (A 312 22)) fun M38 => if ¬ ((F_Mod_isSign (nI 59) M38) = true) then ob2 (F_Mod_errs (nI 1) M38) fun v41 M42 => some (v41, M42) else ob1 (F_Mod_reads z M38) fun M39 => L_Mod_readLaw_1 z mEnd y (n_ + (nI 1)) M39) =
          (ob2 (ob2 (gEnd z n_ A) fun v11 M12 => some (decide (v11 = (-1)), M12)) fun x1 M3 => if x1 = true then some ((-1), M3) else L_Mod_readLaw_1 z mEnd y (n_ + (nI 1)) M3) := by
        intro A
        unfold gEnd
        cases wa A 323 48 ((nI 32) + n_) (A 312 22) with
        | none => rfl
        | some B =>
          rw [ob1_ok, ob1_ok]
          by_cases h3 : ¬ F_Mod_isSign (nI 59) B = true
          · rw [if_pos h3, if_pos h3]
            obtain ⟨N', e⟩ := errs_at (N := B) (k := nI 1)
            rw [e, ob2_ok, ob2_ok, ob2_ok, if_pos (decide_eq_true rfl)]
          · rw [if_neg h3, if_neg h3]
            cases F_Mod_reads z B with
            | none => rfl
            | some C =>
              rw [ob1_ok, ob1_ok, ob2_ok, ob2_ok, if_neg (fun e => nI_nm (show 0 < 2147483648 by omega) (of_decide_eq_true e))]
      have e4 : ∀ A : mM, (jn (fun (M35 : mM) => ob1 (wa M35 323 48 ((nI 32) + n_) (M35 312 22)) fun M38 => if ¬ ((F_Mod_isSign (nI 59) M38) = true) then ob2 (F_Mod_errs (nI 1) M38) fun v41 M42 => some (v41, M42) else ob1 (F_Mod_reads z M38) fun M39 => L_Mod_readLaw_1 z mEnd y (n_ + (nI 1)) M39) fun kj36 => if (F_Mod_isWord (nI 3) A) = true then ob1 (F_Mod_reads z A) fun M44 => ob2 (ob2 (F_Mod_readAny z M44) fun v56 M57 => some (decide (v56 = (-1)), M57)) fun x46 M48 => if x46 = true then some ((-1), M48) else kj36 M48 else kj36 A) =
          (ob2 (ob2 (gWhen z n_ A) fun v11 M12 => some (decide (v11 = (-1)), M12)) fun x1 M3 => if x1 = true then some ((-1), M3) else L_Mod_readLaw_1 z mEnd y (n_ + (nI 1)) M3) := by
        intro A
        unfold gWhen
        rw [jn_eq]
        by_cases h3 : F_Mod_isWord (nI 3) A = true
        · rw [if_pos h3, if_pos h3]
          cases F_Mod_reads z A with
          | none => rfl
          | some B =>
            rw [ob1_ok, ob1_ok]
            cases F_Mod_readAny z B with
            | none => rfl
            | some p =>
              obtain ⟨v, C⟩ := p
              rw [ob2_ok, ob2_ok, ob2_ok]
              by_cases h4 : decide (v = -1) = true
              · rw [if_pos h4, if_pos h4, ob2_ok, ob2_ok, if_pos (decide_eq_true rfl)]
              · rw [if_neg h4, if_neg h4]
                exact e5 C
        · rw [if_neg h3, if_neg h3]
          exact e5 A
      unfold gLaw
      cases wa N 320 48 ((nI 32) + n_) (N 312 12) with
      | none => rfl
      | some A =>
        rw [ob1_ok, ob1_ok]
        cases F_Mod_reads z A with
        | none => rfl
        | some B =>
          rw [ob1_ok, ob1_ok]
          cases wa B 321 48 ((nI 32) + n_) (B 312 22) with
          | none => rfl
          | some C =>
            rw [ob1_ok, ob1_ok]
            cases F_Mod_readSum z C with
            | none => rfl
            | some p =>
              obtain ⟨v, D⟩ := p
              rw [ob2_ok, ob2_ok, ob2_ok]
              by_cases h4 : decide (v = -1) = true
              · rw [if_pos h4, if_pos h4, ob2_ok, ob2_ok, if_pos (decide_eq_true rfl)]
              · rw [if_neg h4, if_neg h4]
                cases wa D 322 48 ((nI 32) + n_) (D 312 22) with
                | none => rfl
                | some E =>
                  rw [ob1_ok, ob1_ok]
                  exact e4 E
  · rw [if_neg h1, if_neg h1]
theorem FrL_tr {b b' : Nat} {M1 : mM} (h : FrL b M M1) (h' : FrL b' M1 M') (hb : b ≤ b') : FrL b M M' := ⟨fun c' p q r => (h'.1 c' p q r).trans (h.1 c' p q r), fun j p q r s => (h'.2.1 j p q r s).trans (h.2.1 j p q r s), fun j p => (h'.2.2 j (by omega)).trans (h.2.2 j p)⟩
theorem FrL_X {b : Nat} (h : FrX b M M') : FrL b M M' := ⟨fun c' p q _ => h.1 c' p q, h.2.1, h.2.2⟩
theorem FrL_K {b : Nat} (h : FrK M M') : FrL b M M' := ⟨fun c' p _ r => h.1 c' p r, fun j p q _ s => h.2 j p q s, fun j _ => by rw [h.1 104 (by omega) (by omega)]⟩
theorem FrL_l {b j : Nat} {x : Int32} : FrL b M (up M 108 j x) := ⟨fun c' _ _ r => upC r, fun j _ _ _ _ => up_neC _ _ _ _ (by omega), fun j _ => up_neC _ _ _ _ (by omega)⟩
theorem FrG_tr {b b' : Nat} {N1 : mM} (h : FrG k b N N1) (h' : FrG k b' N1 N') (hb : b ≤ b') : FrG k b N N' := ⟨fun c' p q => (h'.1 c' p q).trans (h.1 c' p q), fun j p q r s u v => (h'.2.1 j p q r s u v).trans (h.2.1 j p q r s u v), fun c' j p q r => (h'.2.2.1 c' j p q r).trans (h.2.2.1 c' j p q r), fun j p => ⟨((h'.2.2.2 j (by omega)).1).trans (h.2.2.2 j p).1, ((h'.2.2.2 j (by omega)).2).trans (h.2.2.2 j p).2⟩⟩
theorem FrG_Z {b : Nat} (h : FrZ b N N') : FrG k b N N' := ⟨fun c' p q => h.1 c' p (by omega) (by omega) (by omega), h.2.1, fun c' j p q _ => by rw [h.1 c' (by omega) (by omega) (by omega) (by omega)], h.2.2⟩
theorem FrG_E {b : Nat} (h : FrE N N') : FrG k b N N' := FrG_Z (FrZ_Y (FrY_E h))
theorem FrG_up {b c0 : Nat} {x : Int32} (hc : 320 ≤ c0 ∧ c0 ≤ 323) : FrG k b N (up N c0 (32 + k) x) := ⟨fun c' _ q => upC (by omega), fun j _ _ _ _ _ _ => up_neC _ _ _ _ (by omega), fun c' j p q r => by
  by_cases e : c' = c0
  · subst e; exact up_neJ _ _ _ r
  · exact up_neC _ _ _ _ e, fun j _ => by rw [upC (show 324 ≠ c0 by omega), upC (show 325 ≠ c0 by omega)]; exact ⟨rfl, rfl⟩⟩
theorem FrC_L {b : Nat} (h : FrL b M M') : FrC M M' := ⟨fun c' p _ _ s u => h.1 c' p s u, h.2.1⟩
theorem FrT_G {b : Nat} (h : FrG k b N N') : FrT N N' := by
  intro c' j p
  unfold lowT at p
  by_cases h1 : c' = 312
  · subst h1
    exact h.2.1 j (by omega) (by omega) (by omega) (by omega) (by omega) (by omega)
  · by_cases h2 : 320 ≤ c' ∧ c' ≤ 326
    · by_cases h3 : c' ≤ 323
      · exact h.2.2.1 c' j h2.1 h3 (by omega)
      · have : c' = 324 ∨ c' = 325 := by omega
        rcases this with e | e
        · subst e; exact (h.2.2.2 j (by omega)).1
        · subst e; exact (h.2.2.2 j (by omega)).2
    · rw [h.1 c' h1 h2]
/-- the end of a line: the mark -/
theorem lw_end (hz : 1000 ≤ z) (hk : k < 16) (h : PZ tp n t i M N) (h6 : M 100 6 = nI cc) (h22 : N 312 22 = nI cm) (b b' : Nat) : ∃ M' N', FrL b M M' ∧ FrG k b' N N' ∧
    ((cEnd M = some (false, M') ∧ gEnd z (nI k) N = some (-1, N') ∧ FQ M' N') ∨
     (i < t ∧ cEnd M = some (true, M') ∧ gEnd z (nI k) N = some (nI 0, N') ∧ PZ tp n t (i + 1) M' N' ∧ (∀ j, j ≠ 3 → M' 108 j = M 108 j) ∧ M' 108 3 = nI cc ∧ N' 323 (32 + k) = nI cm ∧ (∀ c', c' < 323 → 320 ≤ c' → N' c' = N c') ∧ M' 104 = M 104 ∧ M' 100 6 = nI cc ∧ N' 312 22 = nI cm ∧ N' 312 23 = N 312 23 ∧ N' 324 = N 324 ∧ N' 325 = N 325)) := by
  unfold cEnd gEnd
  rw [h6, h22, wa_ok (by omega) (by omega), ob1_ok, nadd 32 k, wa_ok (show 32 + k < 48 by omega) (by omega), ob1_ok]
  have hp : PZ tp n t i (up M 108 3 (nI cc)) (up N 323 (32 + k) (nI cm)) := PZ_l (PZ_dr h (by omega))
  obtain ⟨q1, q2⟩ := pz_isSign hp (show 59 < 256 by omega)
  unfold F_Reader_takeSign
  rw [q1, q2, ob1_ok, ob1_ok, ob1_ok]
  by_cases hs : (tkA tp n i).1 = 4 ∧ (tkA tp n i).2.1 = 59
  · obtain ⟨M', N', g1, g2, g3, g4, g5, g6⟩ := x_step (z := z) hz hp (by omega) b b'
    refine ⟨M', N', FrL_tr FrL_l (FrL_X g4) (Nat.le_refl _), FrG_tr (FrG_up (by omega)) (FrG_Z (FrZ_Y g5)) (Nat.le_refl _), Or.inr ⟨PZ_lt h (by omega), ?_, ?_, g3, fun j hj => by rw [g4.1 108 (by omega) (by omega), up_neJ _ _ _ hj], by rw [g4.1 108 (by omega) (by omega), up_same], by rw [g5.1 323 (by omega) (by omega) (by omega), up_same], fun c' p q => by rw [g5.1 c' (by omega) (by omega) (by omega), upC (by omega)], by rw [g6.1, upC (by omega)], by rw [g6.2.1, up_neC _ _ _ _ (by omega)]; exact h6, by rw [g6.2.2.1, up_neC _ _ _ _ (by omega)]; exact h22, by rw [g5.2.1 23 (by omega) (by omega) (by omega) (by omega), up_neC _ _ _ _ (by omega)], by rw [g6.2.2.2.1, upC (by omega)], by rw [g6.2.2.2.2, upC (by omega)]⟩⟩
    · rw [decide_eq_true hs, if_neg (show ¬ (!true) = true from Bool.false_ne_true), g1, ob2_ok, ob2_ok]
    · rw [decide_eq_true hs, if_neg (show ¬ ¬ true = true from fun e => e rfl), g2, ob1_ok]
  · obtain ⟨M', N', g1, g2, g3, g4, g5⟩ := x_fail hp (nI 1) b b'
    refine ⟨M', N', FrL_tr FrL_l (FrL_X g4) (Nat.le_refl _), FrG_tr (FrG_up (by omega)) (FrG_Z (FrZ_Y g5)) (Nat.le_refl _), Or.inl ⟨?_, ?_, g3⟩⟩
    · rw [decide_eq_false hs, if_pos (show (!false) = true from rfl), g1, ob2_ok, ob2_ok]
    · rw [decide_eq_false hs, if_pos (show ¬ false = true from Bool.false_ne_true), g2, ob2_ok]
end SD2
