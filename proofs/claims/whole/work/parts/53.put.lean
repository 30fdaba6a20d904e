/-! ===== what is done by hand: put, both ways ===== -/
/-- the abstract state stands well -/
def IA (c : Nat) (W : Wd) (P : Ps) : Prop := wf c W ∧ preP P W ∧ (∀ k, k < P.1 → wf c (P.2 k)) ∧ ∀ j k, j ≤ k → k < P.1 → pre (P.2 j) (P.2 k)
def IC (M : mM) (W : Wd) (P : Ps) : Prop := (∃ p, CW false 1 M p W) ∧ ∃ r, PC M r P
def IM (M : mM) (W : Wd) (P : Ps) : Prop := RM M W ∧ PM M P
/-- what the model's calls may change -/
def FrN (M M' : mM) : Prop := (∀ c', c' ∉ [312, 313, 314, 316, 330, 331] → M' c' = M c') ∧ ∀ j, j ≠ 3 → M' 312 j = M 312 j
def OK5 (c : Nat) (M M' N N' : mM) : Prop := ∃ W' P', IA (c + 1000) W' P' ∧ IC M' W' P' ∧ IM N' W' P' ∧ FrD M M' ∧ FrN N N'
theorem FrD_rf (M : mM) : FrD M M := ⟨fun _ _ _ _ _ => rfl, fun _ _ _ => rfl⟩
theorem FrN_rf (M : mM) : FrN M M := ⟨fun _ _ => rfl, fun _ _ => rfl⟩
theorem FrN_tr {M M1 M' : mM} (h : FrN M M1) (h' : FrN M1 M') : FrN M M' := ⟨fun c' hc => (h'.1 c' hc).trans (h.1 c' hc), fun j hj => (h'.2 j hj).trans (h.2 j hj)⟩
section S53
variable {z r : Nat} {M N : mM} {p q : Nat → Nat} {W : Wd} {P : Ps} {c : Nat}
theorem IA_mono {c' : Nat} (h : IA c W P) (hc : c ≤ c') : IA c' W P := ⟨wf_mono h.1 hc, h.2.1, fun k hk => wf_mono (h.2.2.1 k hk) hc, h.2.2.2⟩
theorem IA_on {c' : Nat} {W' : Wd} (h : IA c W P) (hp : pre W W') (hf : wf c' W') (hc : c ≤ c') : IA c' W' P := ⟨hf, preP_tr h.2.1 hp, fun k hk => wf_mono (h.2.2.1 k hk) hc, h.2.2.2⟩
theorem IA_rem (h : IA c W P) : IA c W (sRem P W) := by
  obtain ⟨h1, h2, h3, h4⟩ := h
  refine ⟨h1, preP_rem h2, fun k hk => ?_, fun j k hj hk => ?_⟩
  · unfold sRem at hk ⊢
    by_cases h6 : P.1 = 6
    · rw [if_pos h6] at hk ⊢
      show wf c (if k < 5 then P.2 (k + 1) else W)
      by_cases h5 : k < 5
      · rw [if_pos h5]; exact h3 (k + 1) (by omega)
      · rw [if_neg h5]; exact h1
    · rw [if_neg h6] at hk ⊢
      show wf c (if k < P.1 then P.2 k else W)
      by_cases h5 : k < P.1
      · rw [if_pos h5]; exact h3 k h5
      · rw [if_neg h5]; exact h1
  · unfold sRem at hk ⊢
    by_cases h6 : P.1 = 6
    · rw [if_pos h6] at hk ⊢
      show pre (if j < 5 then P.2 (j + 1) else W) (if k < 5 then P.2 (k + 1) else W)
      by_cases h5 : k < 5
      · rw [if_pos h5, if_pos (by omega)]; exact h4 _ _ (by omega) (by omega)
      · rw [if_neg h5]
        by_cases h7 : j < 5
        · rw [if_pos h7]; exact h2 _ (by omega)
        · rw [if_neg h7]; exact pre_rf W
    · rw [if_neg h6] at hk ⊢
      show pre (if j < P.1 then P.2 j else W) (if k < P.1 then P.2 k else W)
      by_cases h5 : k < P.1
      · rw [if_pos h5, if_pos (by omega)]; exact h4 _ _ hj h5
      · rw [if_neg h5]
        by_cases h7 : j < P.1
        · rw [if_pos h7]; exact h2 _ h7
        · rw [if_neg h7]; exact pre_rf W
theorem IA_days {A : LA} {S F : Rw} (hS : okS S) (hF : okF F) : ∀ (m : Nat) (P : Ps) (W : Wd) (c : Nat), IA c W P → c + 16 * m < 2147483648 → IA (c + 16 * m) (sDaysL A S F m P W).2 (sDaysL A S F m P W).1 := by
  intro m
  induction m with
  | zero => intro P W c h _; exact h
  | succ m ih =>
    intro P W c h hc
    rw [show c + 16 * (m + 1) = c + 16 + 16 * m by omega]
    exact ih _ _ _ (IA_on (IA_rem h) (pre_day S F W) (wf_day hS hF h.1 (by omega)) (by omega)) (by omega)
theorem b_days {A : LA} {S F : Rw} (hz : 2000 ≤ z) (hS : okS S) (hF : okF F) (hI : IA c W P) (hc : c + 1000 < 2147483648) (hIC : IC M W P) (hIM : IM N W P) (hA : CL 29 M A) (hB : ML N A) (hRS : RwS 36 M S) (hRF : RwF 34 M F) (hth : N 312 5 = bI false) (hDS : RMs N S) (hDF : RMf N F) (n : Int32) :
    ∃ v M' N', F_Rec_days z n M = some (v, M') ∧ F_Mod_days z n N = some (v, N') ∧ OK5 c M M' N N' := by
  obtain ⟨⟨p, hC⟩, r, hP⟩ := hIC
  obtain ⟨M', p', r', a1, a2, a3, a4, a5⟩ := cw_days (z := z) (by omega) hS hF hA hC hP hI.1 hc hRS hRF n
  obtain ⟨N', b1, b2, b3, b4, b5, b6⟩ := mm_days hz hS hF hB hIM.1 hIM.2 hI.2.1 hI.1 hc hth hDS hDF n
  refine ⟨_, M', N', a1, b1, _, _, ?_, ⟨⟨p', a2⟩, r', a3⟩, ⟨b2, b3⟩, a5, b5, b6⟩
  unfold sDays
  by_cases hb : noDays W n = true
  · rw [if_pos hb]; exact IA_mono hI (by omega)
  · rw [if_neg hb]
    have hb' : ¬ (¬ F_Rec_within n (nI 1) (nI 60) = true ∨ nI 9999 < wS W 0 + n) := fun h => hb (decide_eq_true h)
    have hb1 : F_Rec_within n (nI 1) (nI 60) = true := Classical.byContradiction fun h => hb' (Or.inl h)
    obtain ⟨N, n1, n2, rfl⟩ := rng_n (by omega) (by omega) (of_decide_eq_true hb1)
    rw [nI_clamp (by omega)]
    exact IA_mono (IA_days hS hF N P W c hI (by omega)) (by omega)
theorem b_put (hz : 2000 ≤ z) (hI : IA c W P) (hc : c + 1000 < 2147483648) (hIC : IC M W P) (hIM : IM N W P) (hth : N 312 5 = bI false) (kind size life x : Int32) :
    ∃ v M' N', F_Rec_put z kind size life x M = some (v, M') ∧ F_Mod_put z kind size life x N = some (v, N') ∧ OK5 c M M' N N' := by
  have hf := hI.1
  have h20 := wf_20 hf
  obtain ⟨⟨p, hC⟩, r, hP⟩ := id hIC
  obtain ⟨hR, hPM⟩ := id hIM
  have same : OK5 c M M N N := ⟨W, P, IA_mono hI (by omega), hIC, hIM, FrD_rf M, FrN_rf N⟩
  unfold F_Rec_put F_Mod_put
  rw [isIn_eq, isIn_eq, isIn_eq]
  by_cases h3 : (¬ F_Rec_within kind (nI 0) (nI 5) = true ∨ ¬ F_Rec_within size (nI 1) (nI 9) = true) ∨ ¬ F_Rec_within life (nI 0) (nI 9) = true
  · rw [if_pos h3, if_pos (Or.inl h3), ob1_ok, if_pos rfl, ob1_ok, if_pos rfl]
    exact ⟨_, M, N, rfl, rfl, same⟩
  · rw [if_neg h3]
    have hs : F_Rec_within size (nI 1) (nI 9) = true := Classical.byContradiction fun h => h3 (Or.inl (Or.inr h))
    obtain ⟨s, s1, s2, rfl⟩ := rng_n (by omega) (by omega) (of_decide_eq_true hs)
    rcases inch_c x with ⟨i, hi, rfl⟩ | hx
    · have hin : ¬ ¬ F_Mod_isInch (nI i) = true := fun h => h (decide_eq_true (inch_k hi))
      rw [if_neg (fun h => h.elim h3 hin), mm_isTaken (by omega) hR h20, ob1_ok, ob1_ok, cw_hasRoom hC hf (by omega) hi, ob1_ok, ob1_ok, ra_ok (by omega) (by omega), RM_N hR]
      by_cases hfree : wAt W (nI i) = none
      · rw [hfree]
        rw [if_neg (show ¬ (none : Option Nat).isSome = true from Bool.false_ne_true), ob1_ok, ob1_ok]
        by_cases hN : wN W < 20
        · have e20 : ¬ nI (wN W) = nI 20 := eF (by omega) (by omega) (by omega)
          rw [decide_eq_true hN, decide_eq_false e20, if_neg (show ¬ (!((none : Option Nat).isNone && true)) = true from Bool.false_ne_true), ob1_ok, if_neg Bool.false_ne_true]
          obtain ⟨M1, r1, a1, a2, a3, a4⟩ := cw_remember (z := z) (by omega) hC (wf_150 hf) hP
          have C1 : CW false 1 M1 p W := CW_congr hC (fun c' hc => a3 c' (by unfold inW at hc; omega) (by unfold inW at hc; omega))
          obtain ⟨M2, b1, b2, b3, b4⟩ := cw_newcomer isW_1 C1 hN kind (nI s) life (nI i)
          obtain ⟨M3, d1, d2, d3⟩ := cw_settle b2 hf (by omega) hN hi ⟨s1, s2⟩ hfree b3
          have hpt := (CW_P hC (wN W) hN).1
          have hg : gTh (p (wN W)) = some () := if_pos (isTh_of isW_1 hpt.1 hpt.2)
          have e3 : ∀ c', ¬ inW 1 c' → M3 c' = M1 c' := fun c' h => by
            unfold inW at h
            rw [d3 c' (by simp only [List.mem_cons, List.not_mem_nil, or_false]; omega), b4 c' (by simp only [List.mem_cons, List.not_mem_nil, or_false]; omega)]
          have e0 : M3 0 = M1 0 := e3 0 (by unfold inW; omega)
          have P3 : PC M3 r1 (sRem P W) := PC_cg a2 (fun c' h => e3 c' (by unfold inW; omega)) (by rw [e0]) (by rw [e0])
          obtain ⟨N1, f1, f2, f3, f4⟩ := mm_keepsAhead hz hR h20 hPM
          have R1 : RM N1 W := RM_congr (f3 313 (by omega) (by omega)) (f3 316 (by omega) (by omega)) hR
          have t1 : N1 312 5 = bI false := (f4 5 (by omega)).trans hth
          obtain ⟨N2, g1, g2, g3⟩ := mm_isStuck R1 (wf_150 hf) t1 hN kind (nI s) life (nI i)
          have IA1 := IA_rem hI
          have PM2 : PM N2 (sRem P W) := PM_on f2 R1 g2 IA1.2.1 pre_settle (by rw [g3 312 (by simp)]) (g3 314 (by simp))
          refine ⟨wS W 5, M3, N2, ?_, ?_, sSettle false W kind (nI s) life (nI i), sRem P W, IA_on IA1 pre_settle (wf_mono (wf_settle hf (by omega) hN hi ⟨s1, s2⟩ hfree) (by omega)) (by omega), ⟨⟨p, d2⟩, r1, P3⟩, ⟨g2, PM2⟩, ⟨fun c' h1 h2 h3 h4 => ?_, fun j h1 h2 => ?_⟩, fun c' h => ?_, fun j h => ?_⟩
          · rw [a1, ob1_ok, b1, ob2_ok, hg, ob1_ok, d1, ob2_ok]
          · rw [f1, ob1_ok, g1, ob2_ok]
          · rw [e3 c' h2, a3 c' h1 h4]
          · rw [e0, a4 j h1 h2]
          · simp only [List.mem_cons, List.not_mem_nil, or_false] at h
            rw [g3 c' (by simp only [List.mem_cons, List.not_mem_nil, or_false]; omega), f3 c' (by omega) (by omega)]
          · rw [g3 312 (by simp), f4 j h]
        · have h20' : wN W = 20 := by omega
          rw [h20', decide_eq_false (show ¬ 20 < 20 by omega), if_pos (show (!((none : Option Nat).isNone && false)) = true from rfl), ob1_ok, if_pos (show decide (nI 20 = nI 20) = true from rfl)]
          exact ⟨_, M, N, rfl, rfl, same⟩
      · obtain ⟨t, ht⟩ : ∃ t, wAt W (nI i) = some t := by
          cases h : wAt W (nI i) with
          | none => exact absurd h hfree
          | some t => exact ⟨t, rfl⟩
        rw [ht, if_pos (show (some t).isSome = true from rfl), ob1_ok, ob1_ok, if_pos rfl, if_pos (show (!((some t).isNone && decide (wN W < 20))) = true from rfl)]
        exact ⟨_, M, N, rfl, rfl, same⟩
    · have hin : ¬ F_Mod_isInch x = true := fun h => hx (of_decide_eq_true h)
      rw [if_pos (Or.inr hin), ob1_ok, if_pos rfl, ob1_ok, if_pos rfl, cw_noRoom hx, ob1_ok, ob1_ok, ob1_ok, if_pos (show (!false) = true from rfl)]
      exact ⟨_, M, N, rfl, rfl, same⟩
end S53
