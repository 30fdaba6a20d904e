/-! ===== the class's World is written ===== -/
def nl5 (a b c e g : Int32) (k : Nat) : Int32 := if k = 0 then a else if k = 1 then b else if k = 2 then c else if k = 3 then e else g
section S29
theorem wr_ok {r wd mo n q : Nat} {M : mM} {v : Int32} (hn : M r 3 = nI (n + 1)) (hmo : n < mo) (hwd : wd ≤ 5) (hmo2 : mo ≤ 150) (hq : q ≤ 4) : F_Rows_write r wd mo (nI q) v M = some (if q < wd then up M (r + 1) (n * wd + q) v else M) := by
  have h2 : wd * mo ≤ 5 * 150 := Nat.mul_le_mul hwd hmo2
  have h3 : n * wd ≤ 150 * 5 := Nat.mul_le_mul (by omega) hwd
  unfold F_Rows_write
  rw [hn, nsb (by omega), Nat.add_sub_cancel, nmul, nadd, ob1_ok]
  by_cases h : q < wd
  · have h1 : n * wd + q < wd * mo := idx_lt hmo h
    rw [if_pos ⟨⟨lT h (by omega), lF (by omega) (by omega)⟩, lT h1 (by omega)⟩, wa_ok h1 (by omega), ob1_ok, if_pos h]
  · rw [if_neg (fun e => lF (by omega) (by omega) e.1.1), if_neg h]
theorem full_ok {r wd mo n : Nat} {M : mM} (hn : M r 3 = nI n) (h1 : n ≤ 150) (h2 : mo ≤ 150) : F_Rows_isFull r wd mo M = decide (mo ≤ n) := by
  unfold F_Rows_isFull
  rw [hn]
  refine decide_eq_decide.mpr ?_
  rw [nI_lt' (by omega) (by omega)]
  omega
theorem add_ok {r wd mo n : Nat} {M : mM} (hn : M r 3 = nI n) (hmo : n < mo) (hwd : wd = 1 ∨ wd = 2 ∨ wd = 4 ∨ wd = 5) (hmo2 : mo ≤ 150) (a b c e g : Int32) : ∃ M', F_Rows_add r wd mo a b c e g M = some M' ∧ Fr [r, r + 1] M M' ∧ M' r 3 = nI (n + 1) ∧ ∀ j k, k < wd → M' (r + 1) (j * wd + k) = if j = n then nl5 a b c e g k else M (r + 1) (j * wd + k) := by
  have hw5 : wd ≤ 5 := by omega
  have s0 : (up M r 3 (nI (n + 1))) r 3 = nI (n + 1) := up_same _ _ _ _
  have key : ∀ (M0 : mM) (q : Nat) (v : Int32), M0 r 3 = nI (n + 1) → (if q < wd then up M0 (r + 1) (n * wd + q) v else M0) r 3 = nI (n + 1) := by
    intro M0 q v h
    by_cases hq : q < wd
    · rw [if_pos hq, up_neC _ _ _ _ (by omega)]; exact h
    · rw [if_neg hq]; exact h
  have s1 := key _ 0 a s0
  have s2 := key _ 1 b s1
  have s3 := key _ 2 c s2
  have s4 := key _ 3 e s3
  have s5 := key _ 4 g s4
  refine ⟨_, ?_, ?_, s5, ?_⟩
  · unfold F_Rows_add
    rw [full_ok hn (by omega) hmo2, if_neg (fun h => by have := of_decide_eq_true h; omega), hn, nadd, ob1_ok, wr_ok s0 hmo hw5 hmo2 (by omega), ob1_ok, wr_ok s1 hmo hw5 hmo2 (by omega), ob1_ok, wr_ok s2 hmo hw5 hmo2 (by omega), ob1_ok, wr_ok s3 hmo hw5 hmo2 (by omega), ob1_ok, wr_ok s4 hmo hw5 hmo2 (by omega), ob1_ok]
  · have fr : ∀ (M0 : mM) (q : Nat) (v : Int32), Fr [r, r + 1] M M0 → Fr [r, r + 1] M (if q < wd then up M0 (r + 1) (n * wd + q) v else M0) := by
      intro M0 q v h
      by_cases hq : q < wd
      · rw [if_pos hq]; exact Fr_up h (by simp)
      · rw [if_neg hq]; exact h
    exact fr _ 4 g (fr _ 3 e (fr _ 2 c (fr _ 1 b (fr _ 0 a (Fr_up (Fr_rf _ _) (by simp))))))
  · intro j k hk
    rcases hwd with rfl | rfl | rfl | rfl
    · have hk0 : k = 0 := by omega
      subst hk0
      by_cases hj : j = n
      · subst hj
        simp (disch := omega) only [up_same, up_neJ, up_neC, nl5, ↓reduceIte, Nat.reduceLT]
      · simp (disch := omega) only [up_same, up_neJ, up_neC, hj, ↓reduceIte, Nat.reduceLT]
    · rcases (show k = 0 ∨ k = 1 by omega) with rfl | rfl
      all_goals
        by_cases hj : j = n
        · subst hj
          simp (disch := omega) [up_same, up_neJ, up_neC, nl5]
        · simp (disch := omega) [up_neJ, up_neC, hj]
    · rcases (show k = 0 ∨ k = 1 ∨ k = 2 ∨ k = 3 by omega) with rfl | rfl | rfl | rfl
      all_goals
        by_cases hj : j = n
        · subst hj
          simp (disch := omega) [up_same, up_neJ, up_neC, nl5]
        · simp (disch := omega) [up_neJ, up_neC, hj]
    · rcases (show k = 0 ∨ k = 1 ∨ k = 2 ∨ k = 3 ∨ k = 4 by omega) with rfl | rfl | rfl | rfl | rfl
      all_goals
        by_cases hj : j = n
        · subst hj
          simp (disch := omega) [up_same, up_neJ, up_neC, nl5]
        · simp (disch := omega) [up_neJ, up_neC, hj]
variable {th : Bool} {z w : Nat} {M : mM} {p : Nat → Nat} {W : Wd} {c : Nat}
theorem cw_write (hC : CW th w M p W) (hb150 : wb W ≤ 150) (a b e : Int32) : ∃ M', F_World_write w a b e M = some M' ∧ CW th w M' p (wNoteT th W a b e) ∧ Fr [w + 5, w + 6] M M' := by
  obtain ⟨n, hn, hm⟩ := CW_b hC
  obtain ⟨f1, f2, f3, f4, f5⟩ := wNoteT_f (th := th) (W := W) (a := a) (b := b) (e := e)
  have hd : M w 12 = wS W 0 := CW_S hC (k := 0) (by omega) (by omega)
  unfold F_World_write
  by_cases h150 : n < 150
  · obtain ⟨M', e1, e2, e3, e4⟩ := add_ok (wd := 4) (mo := 150) hm h150 (by omega) (by omega) (M w 12) a b e (nI 0)
    refine ⟨M', by rw [e1, ob1_ok], ?_, e2⟩
    have hne : ∀ c', c' ≠ w + 5 → c' ≠ w + 6 → M' c' = M c' := fun c' h1 h2 => e2 c' (by simp; omega)
    have hP := CW_P hC
    have h20 := CW_20 hC
    refine ⟨⟨fun t ht => by rw [hne (w + 4) (by omega) (by omega)]; exact hP t ht, by rw [f5]; exact h20⟩, fun k h1 h2 => by rw [hne w (by omega) (by omega), f1]; exact CW_S hC h1 h2, by rw [hne w (by omega) (by omega), f5]; exact CW_N hC, fun i hi => by rw [hne (w + 1) (by omega) (by omega), f2]; exact CW_G hC hi, fun i hi => by rw [hne (w + 2) (by omega) (by omega), f3]; exact CW_L hC hi, fun i hi => ?_, fun t k ht hk => ?_, ⟨n + 1, by omega, e3⟩, fun hth => ?_⟩
    · rw [hne (w + 3) (by omega) (by omega), numAt_cg (W := W) (fun t _ => by rw [f4]; exact ⟨rfl, rfl⟩) f5]
      exact CW_A hC hi
    · rw [f5] at ht
      have h10 := (hP t (by omega)).1
      rw [hne (p t) (by omega) (by omega), f4]
      exact CW_T hC ht hk
    · subst hth
      obtain ⟨q1, q2⟩ := CW_B hC
      have hnb : n = wb W := (nI_inj (by omega) (by omega)).mp (hm.symm.trans q1)
      have hW : wNoteT false W a b e = mkW (wS W) (wG W) (wL W) (wT W) (wN W) (fun j => if j = wb W then nl4 (wS W 0) a b e else wB W j) (wb W + 1) := by
        unfold wNoteT wNote
        rw [if_neg Bool.false_ne_true, if_neg (by omega)]
      rw [hW]
      refine ⟨by rw [e3, hnb]; rfl, fun j k hj hk => ?_⟩
      have hj' : j < wb W + 1 := hj
      have e5 := e4 j k hk
      rw [show w + 6 = w + 5 + 1 by omega, show 4 * j + k = j * 4 + k by omega, e5]
      show _ = (if j = wb W then nl4 (wS W 0) a b e else wB W j) k
      by_cases h : j = n
      · rw [if_pos h, if_pos (by omega), hd]
        unfold nl5 nl4
        rcases (show k = 0 ∨ k = 1 ∨ k = 2 ∨ k = 3 by omega) with rfl | rfl | rfl | rfl <;> rfl
      · rw [if_neg h, if_neg (by omega)]
        have := q2 j k (by omega) hk
        rw [show w + 6 = w + 5 + 1 by omega, show 4 * j + k = j * 4 + k by omega] at this
        exact this
  · refine ⟨M, ?_, ?_, Fr_rf _ _⟩
    · unfold F_Rows_add
      rw [full_ok hm hn (by omega), if_pos (decide_eq_true (by omega)), ob1_ok]
    · have hW : wNoteT th W a b e = W := by
        unfold wNoteT wNote
        cases th with
        | true => rfl
        | false =>
          have hnb : n = wb W := (nI_inj (by omega) (by omega)).mp (hm.symm.trans (CW_B hC).1)
          rw [if_neg Bool.false_ne_true, if_pos (by omega)]
      rw [hW]
      exact hC
theorem cw_newcomer (hw : isW w) (hC : CW th w M p W) (hN : wN W < 20) (k s l x : Int32) : ∃ M', F_World_newcomer w k s l x M = some (p (wN W), M') ∧ CW th w M' p W ∧ TC M' (p (wN W)) (newT (wS W 5) k s l x) ∧ Fr [p (wN W)] M M' := by
  have hP := CW_P hC
  obtain ⟨⟨p1, p2⟩, p3, p4⟩ := hP (wN W) hN
  have h9 : M w 9 = wS W 5 := CW_S hC (k := 5) (by omega) (by omega)
  have hmin : F_Math_min (M w 5) (nI 19) = nI (wN W) := by
    rw [CW_N hC]
    unfold F_Math_min
    by_cases h : 19 < wN W
    · omega
    · rw [if_neg (lF (by omega) (by omega))]
  let c0 := p (wN W)
  have hF : Fr [c0] M (up (up (up (up (up (up (up M c0 0 (wS W 5)) c0 1 k) c0 2 s) c0 3 l) c0 4 x) c0 5 (nI 0)) c0 6 (nI 6)) :=
    Fr_up (Fr_up (Fr_up (Fr_up (Fr_up (Fr_up (Fr_up (Fr_rf _ _) (by simp)) (by simp)) (by simp)) (by simp)) (by simp)) (by simp)) (by simp)
  refine ⟨_, ?_, ?_, ?_, hF⟩
  · unfold F_World_newcomer
    rw [hmin, rT_ok hw hP hN, ob1_ok, h9]
    rfl
  · have hne : ∀ c', c' ≠ c0 → _ = M c' := fun c' h => hF c' (by simpa using h)
    refine ⟨⟨fun t ht => by rw [hne (w + 4) (by omega)]; exact hP t ht, CW_20 hC⟩, fun k h1 h2 => by rw [hne w (by omega)]; exact CW_S hC h1 h2, by rw [hne w (by omega)]; exact CW_N hC, fun i hi => by rw [hne (w + 1) (by omega)]; exact CW_G hC hi, fun i hi => by rw [hne (w + 2) (by omega)]; exact CW_L hC hi, fun i hi => by rw [hne (w + 3) (by omega)]; exact CW_A hC hi, fun t k ht hk => ?_, ?_, fun hth => ?_⟩
    · rw [hne (p t) (fun e => by have := p4 t (by omega) e; omega)]
      exact CW_T hC ht hk
    · rw [hne (w + 5) (by omega)]; exact CW_b hC
    · subst hth
      rw [hne (w + 5) (by omega), hne (w + 6) (by omega)]
      exact CW_B hC
  · intro q hq
    show (up (up (up (up (up (up (up M c0 0 (wS W 5)) c0 1 k) c0 2 s) c0 3 l) c0 4 x) c0 5 (nI 0)) c0 6 (nI 6)) c0 q = _
    rcases (show q = 0 ∨ q = 1 ∨ q = 2 ∨ q = 3 ∨ q = 4 ∨ q = 5 ∨ q = 6 by omega) with rfl | rfl | rfl | rfl | rfl | rfl | rfl <;> simp (disch := omega) [up_same, up_neJ, newT]
end S29
