/-! ===== a balance of squires: what sums there are, both ways ===== -/
theorem min_n {a b : Nat} (ha : a < 2147483648) (hb : b < 2147483648) : F_Math_min (nI a) (nI b) = nI (min a b) := by
  unfold F_Math_min
  by_cases h : b < a
  · rw [if_pos (lT h ha), Nat.min_eq_right (by omega)]
  · rw [if_neg (lF (by omega) hb), Nat.min_eq_left (by omega)]
section S77
variable {z : Nat} {M N : mM} {p : Nat → Nat} {W : Wd} {c s T : Nat} {f : Nat → Nat} {q : Nat → Nat → Bool}
/-- how few make a sum / which sums so many make, with one more of size s -/
def stF (s : Nat) (f : Nat → Nat) : Nat → Nat := fun v => if s ≤ v then min (f v) (f (v - s) + 1) else f v
def stB (s : Nat) (q : Nat → Nat → Bool) : Nat → Nat → Bool := fun n v => q n v || (decide (2 ≤ n) && decide (s ≤ v) && q (n - 1) (v - s))
def CS (M : mM) (f : Nat → Nat) : Prop := ∀ v, v < 181 → M 141 v = nI (f v)
def MS (N : mM) (q : Nat → Nat → Bool) : Prop := ∀ n v, 1 ≤ n → n ≤ 20 → v < 181 → N 341 (181 * n + v) = b2 (q n v)
theorem l_weigh2 (h1000 : ∀ v, v < 181 → f v ≤ 1000) {ct : Nat} {t : Option Nat} (hd : dT t = some ct) (hne : ct ≠ 141) (hT : T ≤ 180) (hs : s ≤ 9) : ∀ (m n : Nat) (M : mM) (x : Int32), x = nI m - nI 1 → m ≤ T + 1 → m < n → M ct 2 = nI s → (∀ v, v < 181 → M 141 v = nI (if m + s ≤ v then stF s f v else f v)) →
    ∃ M', L_Asker_weighWasps_2 z 1 t n x M = some M' ∧ CS M' (stF s f) ∧ Fr [141] M M' := by
  intro m
  induction m with
  | zero =>
    intro n M x hx hm hn h2 hE
    obtain ⟨n, rfl⟩ : ∃ k, n = k + 1 := ⟨n - 1, by omega⟩
    have hneg : x < nI 0 := by rw [hx]; decide
    rw [L_Asker_weighWasps_2, if_neg (fun h => h hneg)]
    refine ⟨M, rfl, fun v hv => ?_, Fr_rf _ _⟩
    rw [hE v hv]
    by_cases h : 0 + s ≤ v
    · rw [if_pos h]
    · rw [if_neg h]
      unfold stF
      rw [if_neg (by omega)]
  | succ m ih =>
    intro n M x hx hm hn h2 hE
    obtain ⟨n, rfl⟩ : ∃ k, n = k + 1 := ⟨n - 1, by omega⟩
    have hx' : x = nI m := by rw [hx, nsb (by omega), Nat.add_sub_cancel]
    subst hx'
    have hstep : nI m + (-1) = nI m - nI 1 := by rw [show nI 1 = (1 : Int32) from rfl]; grind
    rw [L_Asker_weighWasps_2, if_pos (lF (Nat.zero_le _) (by omega)), hd, ob1_ok, h2, nadd]
    by_cases hlt : m + s < 181
    · have hm181 : m < 181 := by omega
      have f1 := h1000 m hm181
      have f2 := h1000 (m + s) hlt
      rw [if_pos (lT hlt (by omega)), ra_ok hlt (by omega), ob1_ok, ra_ok hm181 (by omega), ob1_ok, ob1_ok, hE _ hlt, hE _ hm181, if_neg (show ¬ m + 1 + s ≤ m + s by omega), if_neg (show ¬ m + 1 + s ≤ m by omega), nadd, min_n (by omega) (by omega), wa_ok hlt (by omega), ob1_ok, ob1_ok]
      obtain ⟨M', g1, g2, g3⟩ := ih n (up M 141 (m + s) (nI (min (f (m + s)) (f m + 1)))) _ hstep (by omega) (by omega) (by rw [up_neC _ _ _ _ hne]; exact h2) (fun v hv => by
        by_cases e : v = m + s
        · rw [e, up_same, if_pos (Nat.le_refl _)]
          unfold stF
          rw [if_pos (by omega), Nat.add_sub_cancel]
        · rw [up_neJ _ _ _ e, hE v hv]
          by_cases h : m + s ≤ v
          · rw [if_pos h, if_pos (by omega)]
          · rw [if_neg h, if_neg (by omega)])
      exact ⟨M', g1, g2, Fr_tr (Fr_up (Fr_rf _ _) (by simp)) g3⟩
    · rw [if_neg (lF (by omega) (by omega)), ob1_ok]
      exact ih n M _ hstep (by omega) (by omega) h2 (fun v hv => by
        rw [hE v hv, if_neg (by omega), if_neg (by omega)])
theorem l_sq1 : ∀ (m k n : Nat) (N : mM), k + m = 3801 → m < n → L_Mod_squires_1 z n (nI k) N = some (fil N 341 k 3801 (fun _ => nI 0)) := by
  intro m
  induction m with
  | zero =>
    intro k n N hk hn
    obtain ⟨n, rfl⟩ : ∃ k, n = k + 1 := ⟨n - 1, by omega⟩
    rw [L_Mod_squires_1, if_neg (lF (by omega) (by omega)), fil_end (by omega)]
  | succ m ih =>
    intro k n N hk hn
    obtain ⟨n, rfl⟩ : ∃ k, n = k + 1 := ⟨n - 1, by omega⟩
    rw [L_Mod_squires_1, if_pos (lT (by omega) (by omega)), wa_ok (by omega) (by omega), ob1_ok, nadd, ih (k + 1) n _ (by omega) (by omega)]
    exact congrArg some (fil_step (g := fun _ => nI 0) (g' := fun _ => nI 0) (by omega) (fun _ _ _ => rfl))
theorem l_sq4 {j : Nat} (hj : 2 ≤ j) (hj20 : j ≤ 20) (hs : s ≤ 9) : ∀ (m k n : Nat) (N : mM), k + m = 181 → s ≤ k → m < n → (∀ n' v, 1 ≤ n' → n' ≤ 20 → v < 181 → N 341 (181 * n' + v) = b2 (if j < n' ∨ (n' = j ∧ v < k) then stB s q n' v else q n' v)) →
    ∃ N', L_Mod_squires_4 z (nI s) (nI j) n (nI k) N = some N' ∧ (∀ n' v, 1 ≤ n' → n' ≤ 20 → v < 181 → N' 341 (181 * n' + v) = b2 (if j ≤ n' then stB s q n' v else q n' v)) ∧ Fr [341] N N' := by
  intro m
  induction m with
  | zero =>
    intro k n N hk hsk hn hE
    obtain ⟨n, rfl⟩ : ∃ k, n = k + 1 := ⟨n - 1, by omega⟩
    rw [L_Mod_squires_4, if_neg (lF (by omega) (by omega))]
    refine ⟨N, rfl, fun n' v h1 h2 h3 => ?_, Fr_rf _ _⟩
    rw [hE n' v h1 h2 h3]
    by_cases h : j ≤ n'
    · rw [if_pos h, if_pos (by omega)]
    · rw [if_neg h, if_neg (by omega)]
  | succ m ih =>
    intro k n N hk hsk hn hE
    obtain ⟨n, rfl⟩ : ∃ k, n = k + 1 := ⟨n - 1, by omega⟩
    have hr : N 341 (181 * (j - 1) + k - s) = b2 (q (j - 1) (k - s)) := by
      have h := hE (j - 1) (k - s) (by omega) (by omega) (by omega)
      rw [if_neg (by omega)] at h
      rw [← h]
      congr 1
      omega
    have hd : decide (b2 (q (j - 1) (k - s)) = nI 1) = q (j - 1) (k - s) := by
      cases q (j - 1) (k - s) with
      | true => exact decide_eq_true rfl
      | false => exact decide_eq_false (show ¬ nI 0 = nI 1 by decide)
    have hst : stB s q j k = (q j k || q (j - 1) (k - s)) := by
      unfold stB
      rw [decide_eq_true hj, decide_eq_true hsk, Bool.true_and, Bool.true_and]
    rw [L_Mod_squires_4, if_pos (lT (by omega) (by omega)), nsb (by omega), nmul, nadd, nsb (by omega), ra_ok (by omega) (by omega), ob1_ok, ob1_ok, hr, hd, nmul, nadd, nadd]
    cases hq : q (j - 1) (k - s) with
    | true =>
      rw [if_pos rfl, wa_ok (by omega) (by omega), ob1_ok, ob1_ok]
      obtain ⟨N', g1, g2, g3⟩ := ih (k + 1) n (up N 341 (181 * j + k) (nI 1)) (by omega) (by omega) (by omega) (fun n' v h1 h2 h3 => by
        by_cases e : n' = j ∧ v = k
        · obtain ⟨e1, e2⟩ := e
          subst e1 e2
          rw [up_same, if_pos (by omega), hst, hq, Bool.or_true]
          rfl
        · rw [up_neJ _ _ _ (by omega), hE n' v h1 h2 h3]
          by_cases h : j < n' ∨ (n' = j ∧ v < k)
          · rw [if_pos h, if_pos (by omega)]
          · rw [if_neg h, if_neg (by omega)])
      exact ⟨N', g1, g2, Fr_tr (Fr_up (Fr_rf _ _) (by simp)) g3⟩
    | false =>
      rw [if_neg Bool.false_ne_true, ob1_ok]
      exact ih (k + 1) n N (by omega) (by omega) (by omega) (fun n' v h1 h2 h3 => by
        rw [hE n' v h1 h2 h3]
        by_cases e : n' = j ∧ v = k
        · obtain ⟨e1, e2⟩ := e
          subst e1 e2
          rw [if_neg (by omega), if_pos (by omega), hst, hq, Bool.or_false]
        · by_cases h : j < n' ∨ (n' = j ∧ v < k)
          · rw [if_pos h, if_pos (by omega)]
          · rw [if_neg h, if_neg (by omega)])
theorem l_sq3 (hz : 1000 ≤ z) (hs : s ≤ 9) : ∀ (m n : Nat) (N : mM), m + 1 ≤ 20 → m < n → (∀ n' v, 1 ≤ n' → n' ≤ 20 → v < 181 → N 341 (181 * n' + v) = b2 (if m + 1 < n' then stB s q n' v else q n' v)) →
    ∃ N', L_Mod_squires_3 z (nI s) n (nI (m + 1)) N = some N' ∧ MS N' (stB s q) ∧ Fr [341] N N' := by
  intro m
  induction m with
  | zero =>
    intro n N hm hn hE
    obtain ⟨n, rfl⟩ : ∃ k, n = k + 1 := ⟨n - 1, by omega⟩
    rw [L_Mod_squires_3, if_neg (lF (by omega) (by omega))]
    refine ⟨N, rfl, fun n' v h1 h2 h3 => ?_, Fr_rf _ _⟩
    rw [hE n' v h1 h2 h3]
    by_cases h : 0 + 1 < n'
    · rw [if_pos h]
    · rw [if_neg h]
      unfold stB
      rw [decide_eq_false (show ¬ 2 ≤ n' by omega), Bool.false_and, Bool.false_and, Bool.or_false]
  | succ m ih =>
    intro n N hm hn hE
    obtain ⟨n, rfl⟩ : ∃ k, n = k + 1 := ⟨n - 1, by omega⟩
    have hstep : nI (m + 1 + 1) + (-1) = nI (m + 1) := by rw [show nI (m + 1 + 1) = nI (m + 1) + nI 1 from (nadd (m + 1) 1).symm, show nI 1 = (1 : Int32) from rfl]; grind
    obtain ⟨N1, a1, a2, a3⟩ := l_sq4 (z := z) (q := q) (s := s) (show 2 ≤ m + 1 + 1 by omega) (by omega) hs (181 - s) s z N (by omega) (Nat.le_refl _) (by omega) (fun n' v h1 h2 h3 => by
      rw [hE n' v h1 h2 h3]
      by_cases h : m + 1 + 1 < n'
      · rw [if_pos h, if_pos (Or.inl h)]
      · rw [if_neg h]
        by_cases h' : n' = m + 1 + 1 ∧ v < s
        · rw [if_pos (Or.inr h')]
          unfold stB
          rw [decide_eq_false (show ¬ s ≤ v by omega), Bool.and_false, Bool.false_and, Bool.or_false]
        · rw [if_neg (by omega)])
    obtain ⟨N', g1, g2, g3⟩ := ih n N1 (by omega) (by omega) (fun n' v h1 h2 h3 => by
      rw [a2 n' v h1 h2 h3]
      by_cases h : m + 1 < n'
      · rw [if_pos h, if_pos (by omega)]
      · rw [if_neg h, if_neg (by omega)])
    exact ⟨N', by rw [L_Mod_squires_3, if_pos (lT (by omega) (by omega)), a1, ob1_ok, hstep, g1], g2, Fr_tr a3 g3⟩
/-- both agree on the sums there are; C bounds how many, T how much -/
def RQ (f : Nat → Nat) (q : Nat → Nat → Bool) (T C : Nat) : Prop :=
  (∀ v, v < 181 → f v ≤ 1000) ∧ (∀ v, v < 181 → f v < 1000 → q (f v) v = true) ∧ (∀ n v, v < 181 → q n v = true → f v ≤ n ∧ 1 ≤ n ∧ n ≤ C ∧ v ≤ T) ∧ T ≤ 9 * C ∧ (T = 0 → ∀ n v, q n v = false) ∧ (0 < T → ∃ n v, v < 181 ∧ q n v = true)
theorem RQ_up {C C' : Nat} (h : RQ f q T C) (hc : C ≤ C') : RQ f q T C' := by
  obtain ⟨h1, h2, h3, h4, h5⟩ := h
  exact ⟨h1, h2, fun n v hv hq => by obtain ⟨a, b, d, e⟩ := h3 n v hv hq; exact ⟨a, b, by omega, e⟩, by omega, h5⟩
theorem RQ_st {C C' : Nat} (h : RQ f q T C) (hc : C + 1 ≤ C') (h20 : C' ≤ 20) (hs : 1 ≤ s) (hs9 : s ≤ 9) (hT : 0 < T) : RQ (stF s f) (stB s q) (T + s) C' := by
  obtain ⟨h1, h2, h3, h4, h5, h6⟩ := h
  refine ⟨fun v hv => ?_, fun v hv hlt => ?_, fun n v hv hq => ?_, by omega, fun h => by omega, fun _ => ?_⟩
  · have := h1 v hv
    unfold stF
    split <;> omega
  · unfold stF at hlt ⊢
    unfold stB
    by_cases e : s ≤ v
    · rw [if_pos e] at hlt ⊢
      by_cases hm : f v ≤ f (v - s) + 1
      · rw [Nat.min_eq_left hm] at hlt ⊢
        rw [h2 v hv hlt, Bool.true_or]
      · rw [Nat.min_eq_right (by omega)] at hlt ⊢
        have hq := h2 (v - s) (by omega) (by omega)
        have h1' := (h3 _ _ (by omega) hq).2.1
        rw [Nat.add_sub_cancel, hq, decide_eq_true (show 2 ≤ f (v - s) + 1 by omega), decide_eq_true e, Bool.true_and, Bool.true_and, Bool.or_true]
    · rw [if_neg e] at hlt ⊢
      rw [h2 v hv hlt, Bool.true_or]
  · unfold stB at hq
    rw [Bool.or_eq_true, Bool.and_eq_true, Bool.and_eq_true] at hq
    unfold stF
    rcases hq with hq | ⟨⟨e1, e2⟩, hq⟩
    · obtain ⟨a, b, d, e⟩ := h3 n v hv hq
      refine ⟨?_, b, by omega, by omega⟩
      split
      · have := Nat.min_le_left (f v) (f (v - s) + 1)
        omega
      · exact a
    · have e1 := of_decide_eq_true e1
      have e2 := of_decide_eq_true e2
      obtain ⟨a, b, d, e⟩ := h3 (n - 1) (v - s) (by omega) hq
      refine ⟨?_, by omega, by omega, by omega⟩
      rw [if_pos e2]
      have := Nat.min_le_right (f v) (f (v - s) + 1)
      omega
  · obtain ⟨n, v, hv, hq⟩ := h6 hT
    exact ⟨n, v, hv, by unfold stB; rw [hq, Bool.true_or]⟩
theorem RQ_1 {C C' : Nat} (h : RQ f q 0 C) (hc : C + 1 ≤ C') (hs : 1 ≤ s) (hs9 : s ≤ 9) : RQ (updN (stF s f) s 1) (fun n v => decide (n = 1 ∧ v = s)) s C' := by
  obtain ⟨h1, h2, h3, h4, h5, h6⟩ := h
  have hall : ∀ v, v < 181 → f v = 1000 := fun v hv => by
    have a := h1 v hv
    by_cases e : f v < 1000
    · have := h2 v hv e
      rw [h5 rfl] at this
      cases this
    · omega
  have hst : ∀ v, v < 181 → stF s f v = 1000 := fun v hv => by
    unfold stF
    split
    · rw [hall v hv, hall (v - s) (by omega)]
      decide
    · exact hall v hv
  refine ⟨fun v hv => ?_, fun v hv hlt => ?_, fun n v hv hq => ?_, by omega, fun h => by omega, fun _ => ⟨1, s, by omega, decide_eq_true ⟨rfl, rfl⟩⟩⟩
  · unfold updN
    split
    · omega
    · rw [hst v hv]; exact Nat.le_refl _
  · unfold updN at hlt ⊢
    by_cases e : v = s
    · rw [if_pos e]
      exact decide_eq_true ⟨rfl, e⟩
    · rw [if_neg e, hst v hv] at hlt
      omega
  · obtain ⟨e1, e2⟩ := of_decide_eq_true hq
    unfold updN
    rw [if_pos e2]
    omega
end S77
