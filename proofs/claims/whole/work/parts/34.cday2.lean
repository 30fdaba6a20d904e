/-! ===== a day, the class's way: sliding, growing old, weather, the whole ===== -/
section S34
variable {th : Bool} {z w l : Nat} {M : mM} {p : Nat → Nat} {W : Wd} {c : Nat} {A : LA}
theorem l_slide (hz : 100 ≤ z) (hw : isW w) (hc : c < 2147483648) {steps : Nat} (h9 : steps ≤ 9) {t : Nat} {kt : mM → Option mM} (hkt : ∀ M', kt M' = some M') : ∀ (m n : Nat) (M : mM) (W : Wd), m ≤ steps → m < n → CW th w M p W → wf c W → t < wN W →
    ∃ M' p', L_World_slide_1 z w l (nI t) (p t) (nI steps) kt n (nI (steps - m)) M = some M' ∧ CW th w M' p' (sSl th m t W) ∧ FrW w l M M' := by
  intro m
  induction m with
  | zero =>
    intro n M W hm hn hC hf ht
    obtain ⟨n, rfl⟩ : ∃ k, n = k + 1 := ⟨n - 1, by omega⟩
    refine ⟨M, p, ?_, hC, FrW_rf _ _ _⟩
    rw [L_World_slide_1, if_neg (lF (by omega) (by omega)), ob1_ok, if_neg Bool.false_ne_true, hkt]
  | succ m ih =>
    intro n M W hm hn hC hf ht
    obtain ⟨n, rfl⟩ : ∃ k, n = k + 1 := ⟨n - 1, by omega⟩
    have hP := CW_P hC
    have h20 := CW_20 hC
    obtain ⟨⟨p1, p2⟩, p3, p4⟩ := hP t (by omega)
    obtain ⟨i, hi, hat⟩ := wf_at hf ht
    have e4 : M (p t) 4 = nI i := (CW_T hC ht (by omega)).trans hat
    have e0 : M (p t) 0 = wT W t 0 := CW_T hC ht (by omega)
    rw [L_World_slide_1, if_pos (lT (by omega) (by omega)), e4, nadd i 1, cw_isTaken hC hf hc, ob1_ok, ob1_ok, ob1_ok, sSl, hat, nadd i 1]
    cases hT : (wAt W (nI (i + 1))).isSome with
    | true =>
      rw [if_neg (show ¬ (!true) = true by decide), if_pos rfl, hkt]
      exact ⟨M, p, rfl, hC, FrW_rf _ _ _⟩
    | false =>
      rw [if_pos (show (!false) = true from rfl), if_neg Bool.false_ne_true, ob1_ok]
      by_cases h59 : i < 59
      · have nn : ¬ ¬ nI i < nI 59 := fun h => h (lT h59 (by omega))
        rw [if_neg (show ¬ decide (¬ nI i < nI 59) = true from fun h => nn (of_decide_eq_true h)), if_neg nn]
        have hfree : wAt W (nI (i + 1)) = none := by
          cases q : wAt W (nI (i + 1)) with
          | none => rfl
          | some s => rw [q] at hT; cases hT
        have hC2 := CW_step hC hf ht hat h59 hfree
        have hf2 := wf_step hf ht hat h59 hfree
        obtain ⟨M', p', g1, g2, g3⟩ := ih n _ _ (by omega) (by omega) hC2 hf2 ht
        refine ⟨M', p', ?_, g2, FrW_tr (FrW_of (S := [w + 3, p t]) (Fr_up (Fr_up (Fr_up (Fr_rf _ _) (by simp)) (by simp)) (by simp)) (fun c' h => ?_)) g3⟩
        · have q4 : (up M (w + 3) i (-1)) (p t) 4 = nI i := by rw [up_neC _ _ _ _ (by omega)]; exact e4
          have q5 : (up (up M (w + 3) i (-1)) (p t) 4 (nI (i + 1))) (p t) 4 = nI (i + 1) := up_same _ _ _ _
          have q0 : (up (up M (w + 3) i (-1)) (p t) 4 (nI (i + 1))) (p t) 0 = wT W t 0 := by
            rw [up_neJ _ _ _ (by omega), up_neC _ _ _ _ (by omega)]; exact e0
          rw [wa_ok hi (by omega), ob1_ok, q4, nadd i 1, ob1_ok, q5, q0, wa_ok (by omega) (by omega), ob1_ok, nadd (steps - (m + 1)) 1, show steps - (m + 1) + 1 = steps - m by omega]
          exact g1
        · simp at h
          left
          unfold inW
          omega
      · rw [if_pos (show decide (¬ nI i < nI 59) = true from decide_eq_true (lF (by omega) (by omega))), if_pos (lF (by omega) (by omega))]
        obtain ⟨M4, g1, g2, g3⟩ := cw_freed (z := z) (l := l) hz hw hC hf ht (nI 4)
        exact ⟨M4, _, g1, g2, g3⟩
theorem tells_nat {x : Int32} {env : En} : ∃ k, k ≤ 1000 ∧ tellsS A x env = nI k ∧ (x = nI 2 → k ≤ 9) := by
  have key : ∀ (v : Int32) (m : Nat), m < 2147483648 → ∃ k, k ≤ m ∧ F_Math_max (nI 0) (F_Math_min v (nI m)) = nI k := by
    intro v m hm
    have e0 : (nI 0).toInt = 0 := rfl
    have em := nI_toInt hm
    unfold F_Math_max F_Math_min
    by_cases h : nI m < v
    · rw [if_pos h]
      exact ⟨m, Nat.le_refl _, max0 hm⟩
    · rw [if_neg h]
      by_cases h2 : nI 0 < v
      · rw [if_pos h2]
        rw [Int32.lt_iff_toInt_lt] at h h2
        refine ⟨v.toInt.toNat, by omega, ?_⟩
        apply Int32.toInt_inj.mp
        rw [nI_toInt (by omega)]
        omega
      · rw [if_neg h2]
        exact ⟨0, Nat.zero_le _, rfl⟩
  unfold tellsS
  by_cases h : x = nI 2
  · rw [if_pos h]
    obtain ⟨k, h1, h2⟩ := key (tellV A x env) 9 (by omega)
    exact ⟨k, by omega, h2, fun _ => h1⟩
  · rw [if_neg h]
    obtain ⟨k, h1, h2⟩ := key (tellV A x env) 1000 (by omega)
    exact ⟨k, h1, h2, fun e => absurd e h⟩
theorem cw_slide (hz : 1000 ≤ z) (hw : isW w) (hl : isL l) (hout : ∀ c', inW w c' → ¬ (l ≤ c' ∧ c' ≤ l + 4)) (hA : CL l M A) (hC : CW th w M p W) (hf : wf c W) (hc : c < 2147483648) {t : Nat} (ht : t < wN W) :
    ∃ M' p', F_World_slide z w l (nI t) M = some M' ∧ CW th w M' p' (sSl th (tellsS A (nI 2) (envW W (wT W t))).toNatClampNeg t W) ∧ FrW w l M M' := by
  have hP := CW_P hC
  have h20 := CW_20 hC
  obtain ⟨⟨p1, p2⟩, p3, p4⟩ := hP t (by omega)
  have hct : inW w (p t) := ⟨by omega, by omega⟩
  have hout4 : ∀ c', inW w c' → c' ≠ l + 4 := fun c' h e => hout c' h (by omega)
  obtain ⟨i, hi, hat⟩ := wf_at hf ht
  obtain ⟨M2, b1, b2⟩ := cw_tells (T := wT W t) hz hl hout hct hf hc hi hat hA hC (fun k hk => CW_T hC ht hk) (nI 2)
  have hne2 : ∀ c', c' ≠ l + 4 → M2 c' = M c' := fun c' h => b2 c' (by simpa using h)
  have hC2 : CW th w M2 p W := CW_congr hC (fun c' h => hne2 c' (hout4 c' h))
  obtain ⟨k, -, ek, hk⟩ := tells_nat (A := A) (x := nI 2) (env := envW W (wT W t))
  have hk9 := hk rfl
  obtain ⟨M', p', g1, g2, g3⟩ := l_slide (th := th) (l := l) (z := z) (p := p) (by omega) hw hc hk9 (t := t) (kt := fun M42 => some M42) (fun _ => rfl) k z M2 W (Nat.le_refl _) (by omega) hC2 hf ht
  refine ⟨M', p', ?_, ?_, FrW_tr (FrW_of b2 (fun c' h => by simp at h; right; exact h)) g3⟩
  · unfold F_World_slide
    rw [if_neg (mF (by omega)), rT_ok hw hP (by omega), ob1_ok, b1, ob2_ok, ek]
    rw [Nat.sub_self] at g1
    exact g1
  · rw [ek, nI_clamp (by omega)]
    exact g2
theorem l_strL (hz : 1000 ≤ z) (hw : isW w) {t0 : Nat} (hl : isL (t0 + 1)) (hout : ∀ c', inW w c' → ¬ (t0 + 1 ≤ c' ∧ c' ≤ t0 + 1 + 4)) (hc : c < 2147483648) : ∀ (m t n : Nat) (M : mM) (p : Nat → Nat) (W : Wd), m ≤ 20 → m < n → CL (t0 + 1) M A → CW th w M p W → wf c W → t ≤ 20 →
    ∃ M' p' v, L_World_liveDay_3 z w t0 th n (nI t) (nI (20 - m)) M = some (v, M') ∧ CW th w M' p' (sStrL th A m t W) ∧ FrW w (t0 + 1) M M' := by
  intro m
  induction m with
  | zero =>
    intro t n M p W hm hn hA hC hf ht
    obtain ⟨n, rfl⟩ : ∃ k, n = k + 1 := ⟨n - 1, by omega⟩
    refine ⟨M, p, nI t, ?_, hC, FrW_rf _ _ _⟩
    rw [L_World_liveDay_3, if_neg (fun h => lF (by omega) (by omega) h.1)]
  | succ m ih =>
    intro t n M p W hm hn hA hC hf ht
    obtain ⟨n, rfl⟩ : ∃ k, n = k + 1 := ⟨n - 1, by omega⟩
    have h20 := CW_20 hC
    rw [L_World_liveDay_3, CW_N hC, sStrL]
    by_cases h : t < wN W
    · rw [if_pos ⟨lT (by omega) (by omega), lT h (by omega)⟩, if_pos h]
      obtain ⟨M1, p1, a1, a2, a3⟩ := cw_str hz hw hl hout hA hC hf hc h
      obtain ⟨M2, p2, v, b1, b2, b3⟩ := ih (if (sStr th A W t).1 = true then t else t + 1) n M1 p1 _ (by omega) (by omega) (CL_FrW hout a3 hA) a2 (wf_str hf h) (by split <;> omega)
      refine ⟨M2, p2, v, ?_, b2, FrW_tr a3 b3⟩
      rw [a1, ob2_ok, nadd, show 20 - (m + 1) + 1 = 20 - m by omega]
      exact b1
    · rw [if_neg (fun q => lF (by omega) (by omega) q.2), if_neg h]
      exact ⟨M, p, _, rfl, hC, FrW_rf _ _ _⟩
theorem l_slL (hz : 1000 ≤ z) (hw : isW w) {t0 : Nat} (hl : isL (t0 + 1)) (hout : ∀ c', inW w c' → ¬ (t0 + 1 ≤ c' ∧ c' ≤ t0 + 1 + 4)) (hc : c < 2147483648) : ∀ (m n : Nat) (M : mM) (p : Nat → Nat) (W : Wd) (x : Int32), (x = nI m - nI 1) → m ≤ 60 → m < n → CL (t0 + 1) M A → CW th w M p W → wf c W →
    ∃ M' p', L_World_liveDay_4 z w t0 n x M = some M' ∧ CW th w M' p' (sSlL th A m W) ∧ FrW w (t0 + 1) M M' := by
  intro m
  induction m with
  | zero =>
    intro n M p W x hx hm hn hA hC hf
    obtain ⟨n, rfl⟩ : ∃ k, n = k + 1 := ⟨n - 1, by omega⟩
    refine ⟨M, p, ?_, hC, FrW_rf _ _ _⟩
    rw [L_World_liveDay_4, hx, if_neg (by decide)]
  | succ m ih =>
    intro n M p W x hx hm hn hA hC hf
    obtain ⟨n, rfl⟩ : ∃ k, n = k + 1 := ⟨n - 1, by omega⟩
    have h20 := CW_20 hC
    rw [nsb (by omega), Nat.add_sub_cancel] at hx
    subst hx
    have hx1 : nI m + -1 = nI m - nI 1 := by
      rw [Int32.sub_eq_add_neg]
      rfl
    rw [L_World_liveDay_4, if_pos (lF (by omega) (by omega)), cw_isTaken hC hf hc, ob1_ok, ob1_ok, sSlL]
    unfold sSlide
    cases hT : wAt W (nI m) with
    | none =>
      obtain ⟨M2, p2, b1, b2, b3⟩ := ih n M p W (nI m + -1) hx1 (by omega) (by omega) hA hC hf
      exact ⟨M2, p2, b1, b2, b3⟩
    | some t =>
      obtain ⟨ht, -⟩ := wAt_some hT
      obtain ⟨M1, p1, a1, a2, a3⟩ := cw_slide hz hw hl hout hA hC hf hc ht
      obtain ⟨M2, p2, b1, b2, b3⟩ := ih n M1 p1 _ (nI m + -1) hx1 (by omega) (by omega) (CL_FrW hout a3 hA) a2 (wf_sl _ _ hf ht)
      refine ⟨M2, p2, ?_, b2, FrW_tr a3 b3⟩
      have hn : numAt W m = wT W t 0 := by unfold numAt; rw [hT]
      have ho : oI (some t) = nI t := rfl
      rw [if_pos Option.isSome_some, ra_ok (by omega) (by omega), ob1_ok, CW_A hC (by omega), hn, cw_slotOf (by omega) hw hC, ob1_ok, wOf_of hf ht rfl, ho, a1, ob1_ok, ob1_ok]
      exact b1
theorem l_fly (hz : 1000 ≤ z) (hw : isW w) {t0 : Nat} (hl : isL (t0 + 1)) (hout : ∀ c', inW w c' → ¬ (t0 ≤ c' ∧ c' ≤ t0 + 21)) {F : Rw} (hF : okF F) : ∀ (m j n c : Nat) (M : mM) (W : Wd), j + m = F.1 → m < n → c + m < 2147483648 → CL (t0 + 1) M A → CW th w M p W → wf c W → RwF (t0 + 6) M F →
    ∃ M', L_World_liveDay_2 z w t0 th n (nI j) M = some M' ∧ CW th w M' p (sFly th A F m j W) ∧ FrW w (t0 + 1) M M' := by
  have houtL : ∀ c', inW w c' → ¬ (t0 + 1 ≤ c' ∧ c' ≤ t0 + 1 + 4) := fun c' h e => hout c' h (by omega)
  intro m
  induction m with
  | zero =>
    intro j n c M W hj hn hc hA hC hf hR
    obtain ⟨n, rfl⟩ : ∃ k, n = k + 1 := ⟨n - 1, by omega⟩
    have h16 := hF.1
    refine ⟨M, ?_, hC, FrW_rf _ _ _⟩
    rw [L_World_liveDay_2, hR.1, if_neg (lF (by omega) (by omega))]
  | succ m ih =>
    intro j n c M W hj hn hc hA hC hf hR
    obtain ⟨n, rfl⟩ : ∃ k, n = k + 1 := ⟨n - 1, by omega⟩
    have h16 := hF.1
    have h12 : M w 12 = wS W 0 := CW_S hC (k := 0) (by omega) (by omega)
    have again : ∀ M1 W1, FrW w (t0 + 1) M M1 → CW th w M1 p W1 → wf (c + 1) W1 → ∃ M', L_World_liveDay_2 z w t0 th n (nI j + nI 1) M1 = some M' ∧ CW th w M' p (sFly th A F m (j + 1) W1) ∧ FrW w (t0 + 1) M M' := by
      intro M1 W1 q1 q2 q3
      have r1 : M1 (t0 + 6) = M (t0 + 6) := q1 _ (fun e => hout _ e (by omega)) (by omega)
      have r2 : M1 (t0 + 6 + 1) = M (t0 + 6 + 1) := q1 _ (fun e => hout _ e (by omega)) (by omega)
      obtain ⟨M', e1, e2, e3⟩ := ih (j + 1) n (c + 1) M1 W1 (by omega) (by omega) (by omega) (CL_FrW houtL q1 hA) q2 q3 (by unfold RwF; rw [r1, r2]; exact hR)
      exact ⟨M', by rw [nadd]; exact e1, e2, FrW_tr q1 e3⟩
    rw [L_World_liveDay_2, hR.1, if_pos (lT (by omega) (by omega)), get_ok hR.1 h16 (by omega) (by omega) (by omega) (by omega), ob1_ok, ob1_ok, hR.2 j 0 (by omega) (by omega), h12, sFly]
    by_cases h : F.2 j 0 = wS W 0
    · obtain ⟨M1, a1, a2, a3⟩ := cw_come hz hw hl houtL hA hC hf (by omega) (r := t0 + 6) ⟨fun e => hout _ e (by omega), fun e => hout _ e (by omega), by omega, by omega⟩ hR hF (j := j) (by omega)
      have hf1 : wf (c + 1) (sCome th A W (F.2 j 1) (F.2 j 2) (F.2 j 3) (F.2 j 4)) := by
        obtain ⟨⟨s, h1, h2, e⟩, i, hi, e2⟩ := hF.2 j (by omega)
        rw [e, e2]
        exact wf_come hf (by omega) hi ⟨h1, h2⟩
      rw [if_pos (decide_eq_true h), a1, ob1_ok, ob1_ok, if_pos h]
      exact again M1 _ a3 a2 hf1
    · rw [if_neg (show ¬ decide (F.2 j 0 = wS W 0) = true from fun q => h (of_decide_eq_true q)), ob1_ok, if_neg h]
      exact again M W (FrW_rf _ _ _) hC (wf_mono hf (by omega))
end S34
