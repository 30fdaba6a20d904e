/-! ===== line by line: the class's loop against the model's ===== -/
/-- what a text's reading may change: class, model -/
def FrC (M M' : mM) : Prop := (∀ c', c' ≠ 100 → c' ≠ 102 → c' ≠ 103 → c' ≠ 104 → c' ≠ 108 → M' c' = M c') ∧ ∀ j, j ≠ 2 → j ≠ 3 → j ≠ 6 → j ≠ 11 → M' 100 j = M 100 j
def lowT (c' j : Nat) : Prop := (c' ≠ 312 ∧ ¬ (320 ≤ c' ∧ c' ≤ 329)) ∨ (c' = 312 ∧ ¬ (9 ≤ j ∧ j ≤ 12) ∧ j ≠ 22 ∧ j ≠ 23 ∧ j ≠ 25 ∧ j ≠ 26 ∧ j ≠ 27) ∨ (320 ≤ c' ∧ c' ≤ 323 ∧ j < 32) ∨ ((c' = 324 ∨ c' = 325) ∧ j < 800) ∨ (c' = 327 ∧ j < 80) ∨ (c' = 328 ∧ j < 64) ∨ (c' = 329 ∧ j < 12)
def FrT (N N' : mM) : Prop := ∀ c' j, lowT c' j → N' c' j = N c' j
/-- a line more in the class's rows -/
def Added (cnt : Nat) (M M' : mM) : Prop := Fr [102, 103] M M' ∧ M' 102 3 = nI (cnt + 1) ∧ ∀ j k, k < 5 → M' 103 (j * 5 + k) = if j = cnt then M 108 k else M 103 (j * 5 + k)
def cBody (z : Nat) (k_ : Int32) (M : mM) : Option (Bool × mM) :=
  ob2 (if k_ = (nI 0) then
    ob2 (F_Reader_readLaw z M) fun v126 M127 =>
    some (v126, M127)
    else
    ob2 (if k_ = (nI 1) then
    ob2 (F_Reader_readFlight M) fun v123 M124 =>
    some (v123, M124)
    else
    ob2 (if k_ = (nI 2) then
    ob2 (F_Reader_readSky M) fun v120 M121 =>
    some (v120, M121)
    else
    ob2 (F_Reader_readStrips M) fun v117 M118 =>
    some (v117, M118)) fun v114 M116 =>
    some (v114, M116)) fun v104 M106 =>
    some (v104, M106)) fun v69 M71 =>
    some (v69, M71)
section SB9
variable {z n t i : Nat} {M N M' N' A : mM} {tp : Nat → Nat} {b : Bool}
theorem FrC_rf : FrC M M := ⟨fun _ _ _ _ _ _ => rfl, fun _ _ _ _ _ => rfl⟩
theorem FrC_tr {M1 : mM} (h : FrC M M1) (h' : FrC M1 M') : FrC M M' := ⟨fun c' p q r s u => (h'.1 c' p q r s u).trans (h.1 c' p q r s u), fun j p q r s => (h'.2 j p q r s).trans (h.2 j p q r s)⟩
theorem FrC_K (h : FrK M M') : FrC M M' := ⟨fun c' p _ _ _ u => h.1 c' p u, fun j p q _ s => h.2 j p q s⟩
theorem FrT_rf : FrT N N := fun _ _ _ => rfl
theorem FrT_tr {N1 : mM} (h : FrT N N1) (h' : FrT N1 N') : FrT N N' := fun c' j p => (h' c' j p).trans (h c' j p)
theorem FrT_Dr {c0 q : Nat} (h : FrDr c0 q N N') (hc : (c0 = 328 ∧ 64 ≤ q) ∨ (c0 = 327 ∧ 80 ≤ q) ∨ (c0 = 329 ∧ 12 ≤ q)) : FrT N N' := by
  intro c' j p
  by_cases h1 : c' = 312
  · subst h1
    unfold lowT at p
    exact h.2.1 j (by omega) (by omega) (by omega)
  · by_cases h2 : c' = c0
    · subst h2
      unfold lowT at p
      exact h.2.2 j (by omega)
    · rw [h.1 c' h1 h2]
theorem FrT_E (h : FrE N N') : FrT N N' := FrT_Dr (c0 := 328) (q := 64) (FrDr_E (by omega) h) (by omega)
theorem FrC_Add {cnt : Nat} (h : Added cnt M M') : FrC M M' := ⟨fun c' p q r s u => h.1 c' (by simp only [List.mem_cons, List.not_mem_nil, or_false]; omega), fun j _ _ _ _ => by rw [h.1 100 (by simp only [List.mem_cons, List.not_mem_nil, or_false]; omega)]⟩
theorem PZ_Add {cnt : Nat} (h : PZ tp n t i M N) (ha : Added cnt M M') : PZ tp n t i M' N := PZ_cg h (fun c' hc => ha.1 c' (by simp only [List.mem_cons, List.not_mem_nil, or_false]; omega)) (fun j hj => by rw [ha.1 100 (by simp only [List.mem_cons, List.not_mem_nil, or_false]; omega)]) (fun _ _ => rfl) (fun _ _ _ => rfl)
theorem cb_0 (h : F_Reader_readLaw z M = some (b, A)) : cBody z (nI 0) M = some (b, A) := by
  unfold cBody
  rw [if_pos rfl, h, ob2_ok, ob2_ok]
theorem cb_1 (h : F_Reader_readFlight M = some (b, A)) : cBody z (nI 1) M = some (b, A) := by
  unfold cBody
  rw [if_neg (show ¬ nI 1 = nI 0 from by decide), if_pos rfl, h, ob2_ok, ob2_ok, ob2_ok]
theorem cb_2 (h : F_Reader_readSky M = some (b, A)) : cBody z (nI 2) M = some (b, A) := by
  unfold cBody
  rw [if_neg (show ¬ nI 2 = nI 0 from by decide), if_neg (show ¬ nI 2 = nI 1 from by decide), if_pos rfl, h, ob2_ok, ob2_ok, ob2_ok, ob2_ok]
theorem cb_3 (h : F_Reader_readStrips M = some (b, A)) : cBody z (nI 3) M = some (b, A) := by
  unfold cBody
  rw [if_neg (show ¬ nI 3 = nI 0 from by decide), if_neg (show ¬ nI 3 = nI 1 from by decide), if_neg (show ¬ nI 3 = nI 2 from by decide), h, ob2_ok, ob2_ok, ob2_ok, ob2_ok]
/-- one round of the class's loop -/
theorem rd_end {k : Int32} {kt : mM → Option (Int32 × mM)} {y cnt : Nat} (h : PZ tp n t i M N) (hc : cnt ≤ 16) (h0 : (tkA tp n i).1 = 0) : L_Reader_read_1 z k kt (y + 1) (nI cnt) M = kt M := by
  rw [L_Reader_read_1, if_pos (show ¬ nI 16 < nI cnt from lF (by omega) (by omega)), pz_kind h, ob1_ok, h0, decide_eq_false (fun e => e rfl), ob1_ok, if_neg Bool.false_ne_true]
theorem rd_fail {k : Int32} {kt : mM → Option (Int32 × mM)} {y cnt : Nat} (h : PZ tp n t i M N) (hc : cnt ≤ 16) (h0 : (tkA tp n i).1 ≠ 0) (hb : cBody z k M = some (false, M')) : L_Reader_read_1 z k kt (y + 1) (nI cnt) M = some (-1, M') := by
  have hr := (PZ_r h).1
  unfold cBody at hb
  obtain ⟨v, M1, e1, e2⟩ := ob2_some hb
  cases e2
  rw [L_Reader_read_1, if_pos (show ¬ nI 16 < nI cnt from lF (by omega) (by omega)), pz_kind h, ob1_ok, decide_eq_true (eF h0 (by omega) (by omega)), ob1_ok, if_pos rfl, e1, ob2_ok, if_pos (show ¬ false = true from Bool.false_ne_true)]
theorem rd_line {k : Int32} {kt : mM → Option (Int32 × mM)} {y cnt : Nat} (h : PZ tp n t i M N) (hc : cnt < 16) (h0 : (tkA tp n i).1 ≠ 0) (hb : cBody z k M = some (true, M')) (hn : M' 102 3 = nI cnt) : ∃ M2, Added cnt M' M2 ∧ L_Reader_read_1 z k kt (y + 1) (nI cnt) M = L_Reader_read_1 z k kt y (nI (cnt + 1)) M2 := by
  have hr := (PZ_r h).1
  obtain ⟨M2, a1, a2, a3, a4⟩ := add_ok (r := 102) (wd := 5) (mo := 16) hn hc (by omega) (by omega) (M' 108 0) (M' 108 1) (M' 108 2) (M' 108 3) (M' 108 4)
  refine ⟨M2, ⟨a2, a3, fun j k hk => ?_⟩, ?_⟩
  · refine (a4 j k hk).trans ?_
    by_cases hj : j = cnt
    · rw [if_pos hj, if_pos hj]
      have : k = 0 ∨ k = 1 ∨ k = 2 ∨ k = 3 ∨ k = 4 := by omega
      rcases this with rfl | rfl | rfl | rfl | rfl <;> rfl
    · rw [if_neg hj, if_neg hj]
  · unfold cBody at hb
    obtain ⟨v, M1, e1, e2⟩ := ob2_some hb
    cases e2
    rw [L_Reader_read_1, if_pos (show ¬ nI 16 < nI cnt from lF (by omega) (by omega)), pz_kind h, ob1_ok, decide_eq_true (eF h0 (by omega) (by omega)), ob1_ok, if_pos rfl, e1, ob2_ok, if_neg (show ¬ ¬ true = true from fun e => e rfl),
      ra_ok (k := 0) (by omega) (by omega), ob1_ok, ra_ok (k := 1) (by omega) (by omega), ob1_ok, ra_ok (k := 2) (by omega) (by omega), ob1_ok, ra_ok (k := 3) (by omega) (by omega), ob1_ok, ra_ok (k := 4) (by omega) (by omega), ob1_ok, a1, ob1_ok, nadd cnt 1]
/-- the model's loop, whatever it reads -/
def mStep (TW : mM → Bool) (G : Int32 → mM → Option (Int32 × mM)) (Lm : Nat → Int32 → mM → Option (Int32 × mM)) (kt : Int32 → mM → Option (Int32 × mM)) : Prop :=
  ∀ (y : Nat) (n_ : Int32) (N : mM), Lm (y + 1) n_ N = if TW N = true then
    if n_ = (nI 16) then
    ob2 (F_Mod_errs (nI 3) N) fun v14 M15 =>
    some (v14, M15)
    else
    ob2 (ob2 (G n_ N) fun v11 M12 =>
    some (decide (v11 = (-1)), M12)) fun x1 M3 =>
    if x1 = true then
    some ((-1), M3)
    else
    Lm y (n_ + (nI 1)) M3
    else
    kt n_ N
def mEnd (n_17 : Int32) (M18 : mM) : Option (Int32 × mM) :=
  ob2 (if (M18 312 11) = (nI 0) then
  some (n_17, M18)
  else
  ob2 (F_Mod_errs (nI 1) M18) fun v26 M27 =>
  some (v26, M27)) fun v23 M25 =>
  some (v23, M25)
theorem lines_loop (hz : 1000 ≤ z) {k : Int32} {lo hi : Nat} (hlo : lo < 100) (hhi : hi < 100) {TW : mM → Bool} {G : Int32 → mM → Option (Int32 × mM)} {Lm : Nat → Int32 → mM → Option (Int32 × mM)} (hL : mStep TW G Lm mEnd)
    (hTW : ∀ i M N, PZ tp n t i M N → TW N = decide ((tkA tp n i).1 = 3 ∧ lo ≤ (tkA tp n i).2.1 ∧ (tkA tp n i).2.1 ≤ hi))
    (hF : ∀ M M', F_Reader_takeFirst (nI lo) (nI hi) M = some (false, M') → cBody z k M = some (false, M'))
    {R : Nat → Nat → mM → mM → Prop}
    (hline : ∀ cnt i M N, cnt < 16 → PZ tp n t i M N → M 102 3 = nI cnt → R cnt i M N → TW N = true → ∃ M' N', FrC M M' ∧ FrT N N' ∧
      ((cBody z k M = some (false, M') ∧ G (nI cnt) N = some (-1, N') ∧ FQ M' N') ∨
       (∃ i' v, v ≠ -1 ∧ cBody z k M = some (true, M') ∧ M' 102 3 = nI cnt ∧ G (nI cnt) N = some (v, N') ∧ PZ tp n t i' M' N' ∧ ∀ M2, Added cnt M' M2 → R (cnt + 1) i' M2 N'))) :
    ∀ (m cnt i yc ym : Nat) (M N : mM), cnt + m = 16 → m < yc → m < ym → PZ tp n t i M N → M 102 3 = nI cnt → R cnt i M N →
    ∃ M' N', FrC M M' ∧ FrT N N' ∧
      ((L_Reader_read_1 z k (fun (M133 : mM) => some (M133 102 3, M133)) yc (nI cnt) M = some (-1, M') ∧ Lm ym (nI cnt) N = some (-1, N') ∧ FQ M' N') ∨
       (∃ c1 i', c1 ≤ 16 ∧ L_Reader_read_1 z k (fun (M133 : mM) => some (M133 102 3, M133)) yc (nI cnt) M = some (nI c1, M') ∧ Lm ym (nI cnt) N = some (nI c1, N') ∧ M' 102 3 = nI c1 ∧ R c1 i' M' N' ∧ PZ tp n t i' M' N')) := by
  intro m
  induction m with
  | zero =>
    intro cnt i yc ym M N hm hyc hym h hn hR
    obtain ⟨yc, rfl⟩ : ∃ y, yc = y + 1 := ⟨yc - 1, by omega⟩
    obtain ⟨ym, rfl⟩ : ∃ y, ym = y + 1 := ⟨ym - 1, by omega⟩
    have hc : cnt = 16 := by omega
    subst hc
    rw [hL ym (nI 16) N, hTW i M N h]
    by_cases h0 : (tkA tp n i).1 = 0
    · refine ⟨M, N, FrC_rf, FrT_rf, Or.inr ⟨16, i, by omega, ?_, ?_, hn, hR, h⟩⟩
      · rw [rd_end h (by omega) h0, hn]
      · rw [if_neg (fun e => by have := (of_decide_eq_true e).1; omega)]
        unfold mEnd
        rw [if_pos ((pz_mkind h).2.2.mpr h0), ob2_ok]
    · by_cases hw : (tkA tp n i).1 = 3 ∧ lo ≤ (tkA tp n i).2.1 ∧ (tkA tp n i).2.1 ≤ hi
      · obtain ⟨M', N', g1, g2, g3, g4, g5⟩ := pz_fail h (nI 3)
        refine ⟨M', N', FrC_K g4, FrT_E g5, Or.inl ⟨rd_fail h (by omega) h0 (hF M M' ?_), ?_, g3⟩⟩
        · rw [cw_first h hlo hhi (by omega) hn, if_pos ⟨hw, rfl⟩, g1]
        · rw [if_pos (decide_eq_true hw), if_pos rfl, g2, ob2_ok]
      · obtain ⟨M', N', g1, g2, g3, g4, g5⟩ := pz_fail h (nI 1)
        refine ⟨M', N', FrC_K g4, FrT_E g5, Or.inl ⟨rd_fail h (by omega) h0 (hF M M' ?_), ?_, g3⟩⟩
        · rw [cw_first h hlo hhi (by omega) hn, if_neg (fun e => hw e.1)]
          rcases pz_word (z := z) hz h (a := lo) (b := hi) (col := 0) hlo hhi (by omega) with ⟨-, M2, N2, w1, -⟩ | ⟨hd, -⟩
          · unfold F_Reader_takeWord
            rw [pz_isWord h hlo hhi, decide_eq_false hw, ob1_ok, ob1_ok, ob1_ok, if_pos (show (!false) = true from rfl), g1, ob2_ok]
          · exact absurd hd hw
        · rw [if_neg (fun e => hw (of_decide_eq_true e))]
          unfold mEnd
          rw [if_neg (fun e => h0 ((pz_mkind h).2.2.mp e)), g2, ob2_ok, ob2_ok]
  | succ m ih =>
    intro cnt i yc ym M N hm hyc hym h hn hR
    obtain ⟨yc, rfl⟩ : ∃ y, yc = y + 1 := ⟨yc - 1, by omega⟩
    obtain ⟨ym, rfl⟩ : ∃ y, ym = y + 1 := ⟨ym - 1, by omega⟩
    have hc : cnt < 16 := by omega
    rw [hL ym (nI cnt) N]
    by_cases hw : (tkA tp n i).1 = 3 ∧ lo ≤ (tkA tp n i).2.1 ∧ (tkA tp n i).2.1 ≤ hi
    · have h0 : (tkA tp n i).1 ≠ 0 := by omega
      have htw : TW N = true := by rw [hTW i M N h]; exact decide_eq_true hw
      rw [if_pos htw, if_neg (show ¬ nI cnt = nI 16 from eF (by omega) (by omega) (by omega))]
      obtain ⟨M1, N1, f1, f2, f3⟩ := hline cnt i M N hc h hn hR htw
      rcases f3 with ⟨g1, g2, g3⟩ | ⟨i', v, hv, g1, g2, g3, g4, g5⟩
      · refine ⟨M1, N1, f1, f2, Or.inl ⟨rd_fail h (by omega) h0 g1, ?_, g3⟩⟩
        rw [g2, ob2_ok, ob2_ok, if_pos (decide_eq_true rfl)]
      · obtain ⟨M2, a1, a2⟩ := rd_line (y := yc) (kt := fun (M133 : mM) => some (M133 102 3, M133)) h hc h0 g1 g2
        obtain ⟨M', N', q1, q2, q3⟩ := ih (cnt + 1) i' yc ym M2 N1 (by omega) (by omega) (by omega) (PZ_Add g4 a1) a1.2.1 (g5 M2 a1)
        refine ⟨M', N', FrC_tr f1 (FrC_tr (FrC_Add a1) q1), FrT_tr f2 q2, ?_⟩
        rw [a2, g3, ob2_ok, ob2_ok, if_neg (fun e => hv (of_decide_eq_true e)), nadd cnt 1]
        exact q3
    · rw [hTW i M N h, if_neg (fun e => hw (of_decide_eq_true e))]
      unfold mEnd
      by_cases h0 : (tkA tp n i).1 = 0
      · refine ⟨M, N, FrC_rf, FrT_rf, Or.inr ⟨cnt, i, by omega, ?_, ?_, hn, hR, h⟩⟩
        · rw [rd_end h (by omega) h0, hn]
        · rw [if_pos ((pz_mkind h).2.2.mpr h0), ob2_ok]
      · obtain ⟨M', N', g1, g2, g3, g4, g5⟩ := pz_fail h (nI 1)
        refine ⟨M', N', FrC_K g4, FrT_E g5, Or.inl ⟨rd_fail h (by omega) h0 (hF M M' ?_), ?_, g3⟩⟩
        · rw [cw_first h hlo hhi (by omega) hn, if_neg (fun e => hw e.1)]
          unfold F_Reader_takeWord
          rw [pz_isWord h hlo hhi, decide_eq_false hw, ob1_ok, ob1_ok, ob1_ok, if_pos (show (!false) = true from rfl), g1, ob2_ok]
        · rw [if_neg (fun e => h0 ((pz_mkind h).2.2.mp e)), g2, ob2_ok, ob2_ok]
end SB9
