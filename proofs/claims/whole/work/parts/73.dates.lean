/-! ===== how dates fall: both ways ===== -/
theorem mon_tab : ∀ m, m < 12 → m ≠ 1 → xMonths m = if (((nI (m + 1) = nI 4 ∨ nI (m + 1) = nI 6) ∨ nI (m + 1) = nI 9) ∨ nI (m + 1) = nI 11) then nI 30 else nI 31 := by decide
theorem mon_1 : xMonths 1 = nI 28 := by decide
section S73
variable {z : Nat} {M : mM}
def lpN (y : Nat) : Bool := decide (y % 4 = 0 ∧ (¬ y % 100 = 0 ∨ y % 400 = 0))
theorem leap_n {y : Nat} (hy : y < 10000) : F_Mod_isLeap (nI y) = lpN y := by
  unfold F_Mod_isLeap lpN
  have h4 : y % 4 < 4 := Nat.mod_lt _ (by omega)
  have h100 : y % 100 < 100 := Nat.mod_lt _ (by omega)
  have h400 : y % 400 < 400 := Nat.mod_lt _ (by omega)
  rw [nrem (by omega) (by omega), nrem (by omega) (by omega), nrem (by omega) (by omega)]
  exact decide_eq_decide.mpr (by rw [neq (by omega) (by omega), neq (by omega) (by omega), neq (by omega) (by omega)])
theorem mon_ok {y m : Nat} (h1 : 1 ≤ m) (h12 : m ≤ 12) : F_Dates_monthDays (nI y) (nI m) M = some (F_Mod_daysIn (nI m) (nI y)) := by
  unfold F_Dates_monthDays F_Mod_daysIn
  rw [ob1_ok]
  by_cases e2 : m = 2
  · subst e2
    rw [if_pos rfl]
    by_cases hl : jrem (nI y) (nI 4) = nI 0 ∧ (¬ jrem (nI y) (nI 100) = nI 0 ∨ jrem (nI y) (nI 400) = nI 0)
    · rw [if_pos ⟨rfl, decide_eq_true hl⟩, ob1_ok, if_pos (show F_Mod_isLeap (nI y) = true from decide_eq_true hl)]
    · rw [if_neg (fun h => hl (of_decide_eq_true h.2)), if_pos ⟨lF (by omega) (by omega), lF (by omega) (by omega)⟩, nsb (by omega), rxs_ok (by omega) (by omega), ob1_ok, ob1_ok, ob1_ok, if_neg (show ¬ F_Mod_isLeap (nI y) = true from fun h => hl (of_decide_eq_true h))]
      exact congrArg some mon_1
  · have hne : ¬ nI m = nI 2 := eF e2 (by omega) (by omega)
    have ht := mon_tab (m - 1) (by omega) (by omega)
    rw [show m - 1 + 1 = m by omega] at ht
    rw [if_neg (fun h => hne h.1), if_neg hne, if_pos ⟨lF (by omega) (by omega), lF (by omega) (by omega)⟩, nsb (by omega), rxs_ok (by omega) (by omega), ob1_ok, ob1_ok, ob1_ok, ht]
theorem days_le {y m : Nat} : ∃ k, 28 ≤ k ∧ k ≤ 31 ∧ F_Mod_daysIn (nI m) (nI y) = nI k := by
  unfold F_Mod_daysIn
  split
  · split
    · exact ⟨29, by omega, by omega, rfl⟩
    · exact ⟨28, by omega, by omega, rfl⟩
  · split
    · exact ⟨30, by omega, by omega, rfl⟩
    · exact ⟨31, by omega, by omega, rfl⟩
theorem l_months {y mo : Nat} (h12 : mo ≤ 12) : ∀ (m k n a : Nat), k + m = mo → 1 ≤ k → m < n → a ≤ 1000000 → ∃ b, b ≤ a + 31 * m ∧ L_Dates_dayNumber_1 z (nI y) (nI mo) M n (nI (a + 620548)) (nI k) = some (nI (b + 620548)) ∧ L_Mod_dayOf_2 z (nI y) (nI mo) n (nI a) (nI k) = some (nI b) := by
  intro m
  induction m with
  | zero =>
    intro k n a hk h1 hn ha
    obtain ⟨n, rfl⟩ : ∃ k, n = k + 1 := ⟨n - 1, by omega⟩
    rw [L_Dates_dayNumber_1, L_Mod_dayOf_2, if_neg (lF (by omega) (by omega)), if_neg (lF (by omega) (by omega))]
    exact ⟨a, by omega, rfl, rfl⟩
  | succ m ih =>
    intro k n a hk h1 hn ha
    obtain ⟨n, rfl⟩ : ∃ k, n = k + 1 := ⟨n - 1, by omega⟩
    obtain ⟨v, v1, v2, ev⟩ := days_le (y := y) (m := k)
    rw [L_Dates_dayNumber_1, L_Mod_dayOf_2, if_pos (lT (by omega) (by omega)), if_pos (lT (by omega) (by omega)), mon_ok h1 (by omega), ob1_ok, ob1_ok, ev, nadd, nadd, nadd, show a + 620548 + v = a + v + 620548 by omega]
    by_cases hb : a + v ≤ 1000000
    · obtain ⟨b, b1, b2, b3⟩ := ih (k + 1) n (a + v) (by omega) (by omega) (by omega) hb
      exact ⟨b, by omega, b2, b3⟩
    · have gen : ∀ (m k n a : Nat), k + m = mo → 1 ≤ k → m < n → a ≤ 2000000 - 31 * m → ∃ b, b ≤ a + 31 * m ∧ L_Dates_dayNumber_1 z (nI y) (nI mo) M n (nI (a + 620548)) (nI k) = some (nI (b + 620548)) ∧ L_Mod_dayOf_2 z (nI y) (nI mo) n (nI a) (nI k) = some (nI b) := by
        intro m
        induction m with
        | zero =>
          intro k n a hk h1 hn ha
          obtain ⟨n, rfl⟩ : ∃ k, n = k + 1 := ⟨n - 1, by omega⟩
          rw [L_Dates_dayNumber_1, L_Mod_dayOf_2, if_neg (lF (by omega) (by omega)), if_neg (lF (by omega) (by omega))]
          exact ⟨a, by omega, rfl, rfl⟩
        | succ m ih =>
          intro k n a hk h1 hn ha
          obtain ⟨n, rfl⟩ : ∃ k, n = k + 1 := ⟨n - 1, by omega⟩
          obtain ⟨v, v1, v2, ev⟩ := days_le (y := y) (m := k)
          rw [L_Dates_dayNumber_1, L_Mod_dayOf_2, if_pos (lT (by omega) (by omega)), if_pos (lT (by omega) (by omega)), mon_ok h1 (by omega), ob1_ok, ob1_ok, ev, nadd, nadd, nadd, show a + 620548 + v = a + v + 620548 by omega]
          obtain ⟨b, b1, b2, b3⟩ := ih (k + 1) n (a + v) (by omega) (by omega) (by omega) (by omega)
          exact ⟨b, by omega, b2, b3⟩
      obtain ⟨b, b1, b2, b3⟩ := gen m (k + 1) n (a + v) (by omega) (by omega) (by omega) (by omega)
      exact ⟨b, by omega, b2, b3⟩
def yrN (y : Nat) : Nat := 365 * (y - 1) + (y - 1) / 4 - (y - 1) / 100 + (y - 1) / 400
theorem dv_step (j c : Nat) (hc : c = 4 ∨ c = 100 ∨ c = 400) : (j + 1) / c = j / c + if (j + 1) % c = 0 then 1 else 0 := by
  rcases hc with rfl | rfl | rfl <;> (split <;> omega)
theorem yr_step (j : Nat) : yrN (j + 2) = yrN (j + 1) + if (j + 1) % 4 = 0 ∧ (¬ (j + 1) % 100 = 0 ∨ (j + 1) % 400 = 0) then 366 else 365 := by
  have h4 := dv_step j 4 (by omega)
  have h100 := dv_step j 100 (by omega)
  have h400 := dv_step j 400 (by omega)
  have m1 : (j + 1) % 400 = 0 → (j + 1) % 100 = 0 := by omega
  have m2 : (j + 1) % 100 = 0 → (j + 1) % 4 = 0 := by omega
  have hc : j / 100 ≤ j := Nat.div_le_self j 100
  unfold yrN
  rw [show j + 2 - 1 = j + 1 by omega, show j + 1 - 1 = j by omega, h4, h100, h400]
  obtain ⟨a, ha⟩ : ∃ a, a = j / 4 := ⟨_, rfl⟩
  obtain ⟨b, hb⟩ : ∃ b, b = j / 100 := ⟨_, rfl⟩
  obtain ⟨d, hd⟩ : ∃ d, d = j / 400 := ⟨_, rfl⟩
  rw [← ha, ← hb, ← hd]
  rw [← hb] at hc
  clear ha hb hd h4 h100 h400
  by_cases e4 : (j + 1) % 4 = 0
  · by_cases e100 : (j + 1) % 100 = 0
    · by_cases e400 : (j + 1) % 400 = 0
      · rw [if_pos e4, if_pos e100, if_pos e400, if_pos ⟨e4, Or.inr e400⟩]
        clear m1 m2 e4 e100 e400
        omega
      · rw [if_pos e4, if_pos e100, if_neg e400, if_neg (fun h => h.2.elim (fun h => h e100) e400)]
        clear m1 m2 e4 e100 e400
        omega
    · have e400 : ¬ (j + 1) % 400 = 0 := fun h => e100 (m1 h)
      rw [if_pos e4, if_neg e100, if_neg e400, if_pos ⟨e4, Or.inl e100⟩]
      clear m1 m2 e4 e100 e400
      omega
  · have e100 : ¬ (j + 1) % 100 = 0 := fun h => e4 (m2 h)
    have e400 : ¬ (j + 1) % 400 = 0 := fun h => e100 (m1 h)
    rw [if_neg e4, if_neg e100, if_neg e400, if_neg (fun h => e4 h.1)]
    clear m1 m2 e4 e100 e400
    omega
theorem yr_rng : ∀ m, 620547 + 365 * m ≤ yrN (1700 + m) ∧ yrN (1700 + m) ≤ 620547 + 366 * m := by
  intro m
  induction m with
  | zero => decide
  | succ m ih =>
    have h' := yr_step (1699 + m)
    rw [show 1699 + m + 2 = 1700 + (m + 1) by omega, show 1699 + m + 1 = 1700 + m by omega] at h'
    rw [h']
    obtain ⟨y, hy⟩ : ∃ y, y = yrN (1700 + m) := ⟨_, rfl⟩
    rw [← hy] at ih ⊢
    split <;> omega
theorem l_years {y : Nat} (h2 : y ≤ 2099) : ∀ (m k n a : Nat), k + m = y → 1700 ≤ k → m < n → L_Mod_dayOf_1 z (nI y) n (nI (a + yrN k - 620547)) (nI k) = some (nI (a + yrN y - 620547)) := by
  intro m
  induction m with
  | zero =>
    intro k n a hk h1 hn
    obtain ⟨n, rfl⟩ : ∃ k, n = k + 1 := ⟨n - 1, by omega⟩
    have ek : k = y := by omega
    subst ek
    rw [L_Mod_dayOf_1, if_neg (lF (by omega) (by omega))]
  | succ m ih =>
    intro k n a hk h1 hn
    obtain ⟨n, rfl⟩ : ∃ k, n = k + 1 := ⟨n - 1, by omega⟩
    have hr := (yr_rng (k - 1700)).1
    rw [show 1700 + (k - 1700) = k by omega] at hr
    have hst := yr_step (k - 1)
    rw [show k - 1 + 2 = k + 1 by omega, show k - 1 + 1 = k by omega] at hst
    have e : nI (a + yrN k - 620547) + (if F_Mod_isLeap (nI k) = true then nI 366 else nI 365) = nI (a + yrN (k + 1) - 620547) := by
      rw [leap_n (by omega), hst]
      unfold lpN
      by_cases h : k % 4 = 0 ∧ (¬ k % 100 = 0 ∨ k % 400 = 0)
      · rw [decide_eq_true h, if_pos rfl, if_pos h, nadd, show a + yrN k - 620547 + 366 = a + (yrN k + 366) - 620547 by omega]
      · rw [decide_eq_false h, if_neg Bool.false_ne_true, if_neg h, nadd, show a + yrN k - 620547 + 365 = a + (yrN k + 365) - 620547 by omega]
    rw [L_Mod_dayOf_1, if_pos (lT (by omega) (by omega)), ob1_ok, e, nadd]
    exact ih (k + 1) n a (by omega) (by omega) (by omega)
theorem b_day (hz : 1000 ≤ z) (x : Int32) : (F_Dates_dayNumber z x M = some (-1) ∧ F_Mod_dayOf z x = some (-1)) ∨ ∃ b, b < 10000000 ∧ F_Dates_dayNumber z x M = some (nI (b + 620548)) ∧ F_Mod_dayOf z x = some (nI b) := by
  unfold F_Dates_dayNumber F_Mod_dayOf
  obtain ⟨yy, eyy⟩ : ∃ v, v = x / nI 10000 := ⟨_, rfl⟩
  obtain ⟨mm, emm⟩ : ∃ v, v = jrem (x / nI 100) (nI 100) := ⟨_, rfl⟩
  obtain ⟨dd, edd⟩ : ∃ v, v = jrem x (nI 100) := ⟨_, rfl⟩
  rw [← eyy, ← emm, ← edd, ob1_ok (a1 := mm), ob1_ok (a1 := mm), isIn_eq, isIn_eq, isIn_eq]
  by_cases h1 : ¬ F_Rec_within yy (nI 1700) (nI 2099) = true ∨ ¬ F_Rec_within mm (nI 1) (nI 12) = true
  · left
    rw [if_pos h1, ob1_ok, if_pos rfl, if_pos (Or.inl h1)]
    exact ⟨rfl, rfl⟩
  · have hy : F_Rec_within yy (nI 1700) (nI 2099) = true := Classical.byContradiction fun h => h1 (Or.inl h)
    have hm : F_Rec_within mm (nI 1) (nI 12) = true := Classical.byContradiction fun h => h1 (Or.inr h)
    obtain ⟨y, y1, y2, rfl⟩ := rng_n (by omega) (by omega) (of_decide_eq_true hy)
    obtain ⟨mo, m1, m2, rfl⟩ := rng_n (by omega) (by omega) (of_decide_eq_true hm)
    rw [if_neg h1, mon_ok m1 m2, ob1_ok, ob1_ok, ob1_ok]
    obtain ⟨v, v1, v2, ev⟩ := days_le (y := y) (m := mo)
    rw [ev]
    by_cases h3 : F_Rec_within dd (nI 1) (nI v) = true
    · right
      obtain ⟨d, d1, d2, rfl⟩ := rng_n (by omega) (by omega) (of_decide_eq_true h3)
      have e3 : (!F_Rec_within (nI d) (nI 1) (nI v)) = false := by rw [h3]; rfl
      have g := l_years (z := z) (y := y) y2 (y - 1700) 1700 z (d - 1) (by omega) (by omega) (by omega)
      have e1700 : d - 1 + yrN 1700 - 620547 = d - 1 := by
        have : yrN 1700 = 620547 := by decide
        omega
      rw [e1700] at g
      have hyr : 620547 ≤ yrN y ∧ yrN y ≤ 800000 := by
        have h := yr_rng (y - 1700)
        rw [show 1700 + (y - 1700) = y by omega] at h
        omega
      obtain ⟨b, b1, b2, b3⟩ := l_months (z := z) (M := M) (y := y) m2 (mo - 1) 1 z (d - 1 + yrN y - 620547) (by omega) (by omega) (by omega) (by omega)
      have q1 : (y - 1) / 100 ≤ 365 * (y - 1) + (y - 1) / 4 := by omega
      have ec : nI 365 * nI (y - 1) + nI (y - 1) / nI 4 - nI (y - 1) / nI 100 + nI (y - 1) / nI 400 + nI d = nI (d - 1 + yrN y - 620547 + 620548) := by
        rw [ndiv (by omega) (by omega), ndiv (by omega) (by omega), ndiv (by omega) (by omega), nmul, nadd, nsb q1, nadd, nadd]
        have e9 : 365 * (y - 1) + (y - 1) / 4 - (y - 1) / 100 + (y - 1) / 400 + d = d - 1 + yrN y - 620547 + 620548 := by
          have e8 : 365 * (y - 1) + (y - 1) / 4 - (y - 1) / 100 + (y - 1) / 400 = yrN y := rfl
          rw [e8]
          clear e8 b1 b2 b3 g q1
          omega
        rw [e9]
      refine ⟨b, by omega, ?_, ?_⟩
      · rw [e3, if_neg Bool.false_ne_true, nsb (by omega), ob1_ok, ob1_ok, ec, b2, ob1_ok]
      · rw [if_neg (fun h => h.elim h1 (fun h => h h3)), nsb (by omega), ob1_ok, g, ob1_ok, b3, ob1_ok]
    · left
      have e3 : (!F_Rec_within dd (nI 1) (nI v)) = true := by
        cases h : F_Rec_within dd (nI 1) (nI v) with
        | true => exact absurd h h3
        | false => rfl
      rw [e3, if_pos rfl, if_pos (Or.inr h3)]
      exact ⟨rfl, rfl⟩
theorem b_weekday (hz : 1000 ≤ z) (x : Int32) (N : mM) : ∃ v, F_Rec_weekday z x M = some v ∧ F_Mod_weekday z x N = some v := by
  unfold F_Rec_weekday F_Mod_weekday
  rcases b_day (M := M) hz x with ⟨h1, h2⟩ | ⟨b, hb, h1, h2⟩
  · rw [h1, h2, ob1_ok, ob1_ok, ob1_ok, if_pos rfl, decide_eq_true rfl, if_pos rfl, ob1_ok]
    exact ⟨_, rfl, rfl⟩
  · rw [h1, h2, ob1_ok, ob1_ok, ob1_ok, if_neg (mF (by omega)), decide_eq_false (mF (by omega)), if_neg Bool.false_ne_true, ob1_ok, ob1_ok, nadd, nrem (by omega) (by omega), nrem (by omega) (by omega)]
    exact ⟨_, rfl, by congr 2; omega⟩
theorem i_diff (a b c : Int32) : a + c - (b + c) = a - b := by grind
theorem b_between (hz : 1000 ≤ z) (x y : Int32) (N : mM) : ∃ v, F_Rec_between z x y M = some v ∧ F_Mod_between z x y N = some v := by
  unfold F_Rec_between F_Mod_between
  rcases b_day (M := M) hz x with ⟨h1, h2⟩ | ⟨b, hb, h1, h2⟩
  · rcases b_day (M := M) hz y with ⟨g1, g2⟩ | ⟨b', hb', g1, g2⟩
    · rw [h1, h2, g1, ob1_ok, ob1_ok, ob1_ok, ob1_ok, if_pos (Or.inl rfl), decide_eq_true rfl, if_pos rfl, ob1_ok, if_pos rfl, ob1_ok]
      exact ⟨_, rfl, rfl⟩
    · rw [h1, h2, g1, ob1_ok, ob1_ok, ob1_ok, ob1_ok, if_pos (Or.inl rfl), decide_eq_true rfl, if_pos rfl, ob1_ok, if_pos rfl, ob1_ok]
      exact ⟨_, rfl, rfl⟩
  · rcases b_day (M := M) hz y with ⟨g1, g2⟩ | ⟨b', hb', g1, g2⟩
    · rw [h1, h2, g1, g2, ob1_ok, ob1_ok, ob1_ok, ob1_ok, if_pos (Or.inr rfl), decide_eq_false (mF (by omega)), if_neg Bool.false_ne_true, ob1_ok, decide_eq_true rfl, ob1_ok, if_pos rfl, ob1_ok]
      exact ⟨_, rfl, rfl⟩
    · rw [h1, h2, g1, g2, ob1_ok, ob1_ok, ob1_ok, ob1_ok, if_neg (fun h => h.elim (mF (by omega)) (mF (by omega))), decide_eq_false (mF (by omega)), if_neg Bool.false_ne_true, ob1_ok, decide_eq_false (mF (by omega)), ob1_ok, if_neg Bool.false_ne_true, ob1_ok, ob1_ok, ob1_ok]
      refine ⟨_, rfl, ?_⟩
      rw [show nI (b' + 620548) = nI b' + nI 620548 from (nadd _ _).symm, show nI (b + 620548) = nI b + nI 620548 from (nadd _ _).symm, i_diff]
end S73
