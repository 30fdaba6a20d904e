/-! ===== a balance of squires: the whole of it ===== -/
section S78
variable {z : Nat} {M N : mM} {p : Nat → Nat} {W : Wd} {c s T : Nat} {f : Nat → Nat} {q : Nat → Nat → Bool}
theorem l_wasps (hz : 1000 ≤ z) (hf : wf c W) (hc : c < 2147483648) : ∀ (m k n n' : Nat) (T : Nat) (fi : Int32) (f : Nat → Nat) (q : Nat → Nat → Bool) (M N : mM), k + m = 60 → m < n → m < n' → CW false 1 M p W → RM N W → CS M f → MS N q → RQ f q T (atC W k) → (fi = nI 0 ↔ T = 0) →
    ∃ T' fi' f' q' M' N', L_Asker_weighWasps_1 z 1 n (nI T) (nI k) M = some (nI T', M') ∧ L_Mod_squires_2 z n' (nI T) fi (nI k) N = some (nI T', fi', N') ∧ CS M' f' ∧ MS N' q' ∧ RQ f' q' T' 20 ∧ (fi' = nI 0 ↔ T' = 0) ∧ Fr [141] M M' ∧ Fr [341] N N' := by
  have h20 := wf_20 hf
  intro m
  induction m with
  | zero =>
    intro k n n' T fi f q M N hk hn hn' hC hR hf' hq hRQ hfi
    obtain ⟨n, rfl⟩ : ∃ k, n = k + 1 := ⟨n - 1, by omega⟩
    obtain ⟨n', rfl⟩ : ∃ k, n' = k + 1 := ⟨n' - 1, by omega⟩
    rw [L_Asker_weighWasps_1, L_Mod_squires_2, if_neg (lF (by omega) (by omega)), if_neg (lF (by omega) (by omega))]
    exact ⟨T, fi, f, q, M, N, rfl, rfl, hf', hq, RQ_up hRQ (atC_20 hf k), hfi, Fr_rf _ _, Fr_rf _ _⟩
  | succ m ih =>
    intro k n n' T fi f q M N hk hn hn' hC hR hf' hq hRQ hfi
    obtain ⟨n, rfl⟩ : ∃ k, n = k + 1 := ⟨n - 1, by omega⟩
    obtain ⟨n', rfl⟩ : ∃ k, n' = k + 1 := ⟨n' - 1, by omega⟩
    have hk60 : k < 60 := by omega
    have skip := ih (k + 1) n n' T fi f q M N (by omega) (by omega) (by omega) hC hR hf' hq (RQ_up hRQ (atC_up k)) hfi
    rw [L_Asker_weighWasps_1, L_Mod_squires_2, if_pos (lT (by omega) (by omega)), if_pos (lT (by omega) (by omega)), cw_thingAt (by omega) isW_1 hC hf hc, ob1_ok, mm_isTaken (by omega) hR h20, ob1_ok, ob1_ok, ob1_ok, nadd]
    cases h : wAt W (nI k) with
    | none =>
      rw [if_pos (show (Option.map p none : Option Nat) = none from rfl), ob1_ok, if_pos rfl, if_pos (show (!(none : Option Nat).isSome) = true from rfl), ob1_ok, if_pos rfl]
      exact skip
    | some t =>
      have ht := (wAt_some h).1
      have hd := dT_ok hC (t := t) (by omega)
      have hpt := (CW_P hC t (by omega)).1
      have hsome : ¬ (Option.map p (some t) : Option Nat) = none := fun h => by cases h
      rw [if_neg hsome, hd, ob1_ok, ob1_ok, CW_T hC ht (by omega), if_neg (show ¬ (!(some t).isSome) = true from Bool.false_ne_true), mm_stuckAt (by omega) hR h20, h, oI_some, ob1_ok, mm_thingAt, nadd (130 + 7 * t) 1, ra_ok (k := 130 + 7 * t + 1) (by omega) (by omega), ob1_ok, ob1_ok, RM_T hR ht (by omega)]
      by_cases hw : wT W t 1 = nI 4
      · obtain ⟨s, s1, s9, es⟩ := wf_size hf ht
        have hT9 := hRQ.2.2.2.1
        have hC20 := atC_20 hf (k + 1)
        have hC1 := atC_one hk60 h
        rw [decide_eq_false (fun h => h hw), if_neg Bool.false_ne_true, if_neg Bool.false_ne_true, ob1_ok, mm_thingAt, nadd (130 + 7 * t) 2, ra_ok (k := 130 + 7 * t + 2) (by omega) (by omega), ob1_ok, RM_T hR ht (by omega), es]
        obtain ⟨M1, a1, a2, a3⟩ := l_weigh2 (z := z) (f := f) (s := s) (T := T) hRQ.1 hd (by omega) (by omega) s9 (T + 1) z M (nI T) (by rw [nsb (by omega), Nat.add_sub_cancel]) (Nat.le_refl _) (by omega) (by rw [CW_T hC ht (by omega), es]) (fun v hv => by
          rw [hf' v hv]
          by_cases e : T + 1 + s ≤ v
          · rw [if_pos e]
            have hf1 : f (v - s) = 1000 := by
              have b1 := hRQ.1 (v - s) (by omega)
              by_cases e1 : f (v - s) < 1000
              · have b2 := hRQ.2.1 (v - s) (by omega) e1
                have b3 := (hRQ.2.2.1 _ _ (by omega) b2).2.2.2
                omega
              · omega
            unfold stF
            rw [if_pos (by omega), hf1, Nat.min_eq_left (by have := hRQ.1 v hv; omega)]
          · rw [if_neg e])
        have C1 : CW false 1 M1 p W := CW_congr hC (fun c' h' => a3 c' (by unfold inW at h'; simp only [List.mem_cons, List.not_mem_nil, or_false]; omega))
        have e2 : M1 (p t) 2 = nI s := by rw [CW_T C1 ht (by omega), es]
        rw [a1, ob1_ok]
        by_cases hT0 : T = 0
        · subst hT0
          rw [if_pos rfl, if_pos rfl, ob1_ok, e2, wa_ok (by omega) (by omega), ob1_ok, ob1_ok, ob1_ok, nadd 181 s, wa_ok (by omega) (by omega), ob1_ok, ob2_ok, up_neC _ _ _ _ (by omega), e2, nadd]
          obtain ⟨T', fi', f', q', M', N', g1, g2, g3, g4, g5, g6, g7, g8⟩ := ih (k + 1) n n' (0 + s) (nI s) (updN (stF s f) s 1) (fun n v => decide (n = 1 ∧ v = s)) (up M1 141 s (nI 1)) (up N 341 (181 + s) (nI 1)) (by omega) (by omega) (by omega) (CW_congr C1 (fun c' h' => upC (by unfold inW at h'; omega))) (RM_congr (upC (by omega)) (upC (by omega)) hR) (fun v hv => by
            unfold updN
            by_cases e : v = s
            · rw [e, up_same, if_pos rfl]
            · rw [up_neJ _ _ _ e, if_neg e]
              exact a2 v hv) (fun n v h1 h2 h3 => by
            show _ = b2 (decide (n = 1 ∧ v = s))
            by_cases e : n = 1 ∧ v = s
            · obtain ⟨e1, e2⟩ := e
              subst e1 e2
              rw [decide_eq_true (show 1 = 1 ∧ v = v from ⟨rfl, rfl⟩), show 181 * 1 + v = 181 + v by omega, up_same]
              rfl
            · rw [decide_eq_false e, up_neJ _ _ _ (by omega), hq n v h1 h2 h3, hRQ.2.2.2.2.1 rfl]) (by rw [Nat.zero_add]; exact RQ_1 hRQ hC1 s1 s9) ⟨fun e => absurd e (eF (by omega) (by omega) (by omega)), fun e => by omega⟩
          exact ⟨T', fi', f', q', M', N', g1, g2, g3, g4, g5, g6, Fr_tr a3 (Fr_tr (Fr_up (Fr_rf _ _) (by simp)) g7), Fr_tr (Fr_up (Fr_rf _ _) (by simp)) g8⟩
        · have hne : ¬ nI T = nI 0 := eF hT0 (by omega) (by omega)
          obtain ⟨N1, b1, b2', b3⟩ := l_sq3 (z := z) (q := q) hz s9 19 z N (by omega) (by omega) (fun n' v h1 h2 h3 => by rw [if_neg (by omega)]; exact hq n' v h1 h2 h3)
          rw [if_neg hne, if_neg hne, ob1_ok, ob1_ok, e2, show nI 20 = nI (19 + 1) from rfl, b1, ob1_ok, ob2_ok, nadd]
          obtain ⟨T', fi', f', q', M', N', g1, g2, g3, g4, g5, g6, g7, g8⟩ := ih (k + 1) n n' (T + s) fi (stF s f) (stB s q) M1 N1 (by omega) (by omega) (by omega) C1 (RM_congr (b3 313 (by simp)) (b3 316 (by simp)) hR) a2 b2' (RQ_st hRQ hC1 hC20 s1 s9 (by omega)) ⟨fun e => absurd (hfi.mp e) hT0, fun e => by omega⟩
          exact ⟨T', fi', f', q', M', N', g1, g2, g3, g4, g5, g6, Fr_tr a3 g7, Fr_tr b3 g8⟩
      · rw [decide_eq_true hw, if_pos rfl, if_pos rfl]
        exact skip
def ab (T v : Nat) : Nat := if 2 * v ≤ T then T - 2 * v else 2 * v - T
theorem i_abs (a b : Int32) : 0 - (a - (b + a)) = b := by grind
theorem i_neg (a b : Int32) : a - (b + a) = -b := by grind
theorem abs_n {T k : Nat} (hT : T ≤ 180) (hk : k < 181) : F_Math_abs (nI T - nI 2 * nI k) = nI (ab T k) := by
  rw [nmul]
  unfold F_Math_abs ab
  by_cases h : 2 * k ≤ T
  · have h0 : (0 : Int32) ≤ nI (T - 2 * k) := by
      show nI 0 ≤ nI (T - 2 * k)
      rw [nI_le' (by omega) (by omega)]
      exact Nat.zero_le _
    rw [nsb h, if_pos h, if_pos h0]
  · have e : nI (2 * k) = nI (2 * k - T) + nI T := by
      rw [nadd]
      congr 1
      omega
    have h0 : ¬ (0 : Int32) ≤ nI T - nI (2 * k) := by
      rw [e, i_neg, Int32.le_iff_toInt_le, Int32.toInt_neg, nI_toInt (by omega), Int.bmod_eq_of_le (by omega) (by omega)]
      show ¬ (0 : Int) ≤ _
      omega
    rw [if_neg h, if_neg h0, e, i_abs]
/-- least and few: as near as can be, and of those as few as can be -/
def BEST (q : Nat → Nat → Bool) (T a b : Nat) : Prop := (∃ v, v < 181 ∧ q b v = true ∧ ab T v = a) ∧ ∀ n v, v < 181 → q n v = true → a < ab T v ∨ (a = ab T v ∧ b ≤ n)
theorem BEST_one {a b a' b' : Nat} (h : BEST q T a b) (h' : BEST q T a' b') : a = a' ∧ b = b' := by
  obtain ⟨⟨v, h1, h2, h3⟩, h4⟩ := h
  obtain ⟨⟨v', g1, g2, g3⟩, g4⟩ := h'
  have x := h4 b' v' g1 g2
  have y := g4 b v h1 h2
  omega
theorem l_bal (hT : 0 < T) (hT180 : T ≤ 180) (hS : CS M f) (h1000 : ∀ v, v < 181 → f v ≤ 1000) : ∀ (m k n : Nat) (a b : Nat), k + m = T + 1 → m < n → (a = 1000 ∧ b = 0 ∧ ∀ v, v < k → f v = 1000) ∨ (∃ v, v < k ∧ f v < 1000 ∧ b = f v ∧ a = ab T v ∧ ∀ v', v' < k → f v' < 1000 → a < ab T v' ∨ (a = ab T v' ∧ b ≤ f v')) →
    ∃ a' b', L_Asker_balance_1 z 1 (nI T) M n (nI a) (nI b) (nI k) = some (nI a', nI b') ∧ ((a' = 1000 ∧ b' = 0 ∧ ∀ v, v < T + 1 → f v = 1000) ∨ (∃ v, v < T + 1 ∧ f v < 1000 ∧ b' = f v ∧ a' = ab T v ∧ ∀ v', v' < T + 1 → f v' < 1000 → a' < ab T v' ∨ (a' = ab T v' ∧ b' ≤ f v'))) := by
  intro m
  induction m with
  | zero =>
    intro k n a b hk hn hI
    obtain ⟨n, rfl⟩ : ∃ k, n = k + 1 := ⟨n - 1, by omega⟩
    have ek : k = T + 1 := by omega
    subst ek
    rw [L_Asker_balance_1, if_neg (fun h => h.1 (lT (by omega) (by omega)))]
    exact ⟨a, b, rfl, hI⟩
  | succ m ih =>
    intro k n a b hk hn hI
    obtain ⟨n, rfl⟩ : ∃ k, n = k + 1 := ⟨n - 1, by omega⟩
    have hk181 : k < 181 := by omega
    have hfk := h1000 k hk181
    have habk : ab T k ≤ 362 := by unfold ab; split <;> omega
    have ha : a ≤ 1000 := by
      rcases hI with ⟨h, -⟩ | ⟨v, h1, -, -, h, -⟩
      · omega
      · have : ab T v ≤ 362 := by unfold ab; split <;> omega
        omega
    have hb : b ≤ 1000 := by
      rcases hI with ⟨-, h, -⟩ | ⟨v, h1, -, h, -⟩
      · omega
      · have := h1000 v (by omega)
        omega
    have habs := abs_n (T := T) (k := k) hT180 hk181
    rw [L_Asker_balance_1, if_pos ⟨lF (by omega) (by omega), lT hT (by omega)⟩, ob1_ok, habs, ra_ok hk181 (by omega), ob1_ok, ob1_ok, ob1_ok, hS k hk181, nadd]
    have step : ∀ (x : Bool), (if nI (ab T k) < nI a then some true else if nI (ab T k) = nI a then some (decide (nI (f k) < nI b)) else some false) = some x → (x = true ↔ ab T k < a ∨ (ab T k = a ∧ f k < b)) := fun x hx => by
      by_cases h1 : ab T k < a
      · rw [if_pos (lT h1 (by omega))] at hx
        cases hx
        exact ⟨fun _ => Or.inl h1, fun _ => rfl⟩
      · rw [if_neg (lF (by omega) (by omega))] at hx
        by_cases h2 : ab T k = a
        · rw [if_pos (by rw [h2])] at hx
          cases hx
          rw [decide_eq_true_eq, nI_lt' (by omega) (by omega)]
          exact ⟨fun h => Or.inr ⟨h2, h⟩, fun h => h.elim (fun h => absurd h h1) (fun h => h.2)⟩
        · rw [if_neg (eF h2 (by omega) (by omega))] at hx
          cases hx
          exact ⟨fun h => absurd h Bool.false_ne_true, fun h => by omega⟩
    obtain ⟨x, hx⟩ : ∃ x, (if nI (ab T k) < nI a then some true else if nI (ab T k) = nI a then some (decide (nI (f k) < nI b)) else some false) = some x := by
      split
      · exact ⟨_, rfl⟩
      · split <;> exact ⟨_, rfl⟩
    have hiff := step x hx
    rw [hx, ob1_ok]
    by_cases hlt : f k < 1000
    · rw [decide_eq_true (lT hlt (by omega)), ob1_ok, if_pos rfl, ob1_ok]
      cases hxe : x with
      | true =>
        have hc := hiff.mp hxe
        rw [decide_eq_true rfl, if_pos rfl, ob2_ok]
        refine ih (k + 1) n (ab T k) (f k) (by omega) (by omega) (Or.inr ⟨k, by omega, hlt, rfl, rfl, fun v' hv' hf' => ?_⟩)
        by_cases e : v' = k
        · subst e
          exact Or.inr ⟨rfl, Nat.le_refl _⟩
        · rcases hI with ⟨-, -, h⟩ | ⟨v, -, -, -, -, h⟩
          · have := h v' (by omega)
            omega
          · have := h v' (by omega) hf'
            omega
      | false =>
        have hc : ¬ (ab T k < a ∨ (ab T k = a ∧ f k < b)) := fun h => by rw [hiff.mpr h] at hxe; cases hxe
        rw [decide_eq_false Bool.false_ne_true, if_neg Bool.false_ne_true, ob2_ok]
        refine ih (k + 1) n a b (by omega) (by omega) ?_
        rcases hI with ⟨h1, h2, h⟩ | ⟨v, h0, h1, h2, h3, h⟩
        · omega
        · refine Or.inr ⟨v, by omega, h1, h2, h3, fun v' hv' hf' => ?_⟩
          by_cases e : v' = k
          · subst e
            omega
          · exact h v' (by omega) hf'
    · rw [decide_eq_false (lF (by omega) (by omega)), ob1_ok, if_neg Bool.false_ne_true, ob1_ok, if_neg Bool.false_ne_true, ob2_ok]
      refine ih (k + 1) n a b (by omega) (by omega) ?_
      rcases hI with ⟨h1, h2, h⟩ | ⟨v, h0, h1, h2, h3, h⟩
      · refine Or.inl ⟨h1, h2, fun v' hv' => ?_⟩
        by_cases e : v' = k
        · rw [e]; omega
        · exact h v' (by omega)
      · refine Or.inr ⟨v, by omega, h1, h2, h3, fun v' hv' hf' => ?_⟩
        by_cases e : v' = k
        · rw [e] at hf'; omega
        · exact h v' (by omega) hf'
end S78
