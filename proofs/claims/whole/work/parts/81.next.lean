/-! ===== the model goes to the next numbering ===== -/
section S81
variable {z : Nat} {N : mM} {g a b : Nat → Nat}
def PMm (N : mM) (g : Nat → Nat) : Prop := ∀ j, j < 8 → N 340 j = nI (g j)
theorem bcond {b : Bool} {A : Type} {x y : A} : (bif b then x else y) = if b = true then x else y := by cases b <;> rfl
theorem blt_iff {a b : Nat} : Nat.blt a b = true ↔ a < b := by
  unfold Nat.blt
  rw [Nat.ble_eq]
  exact Iff.rfl
theorem beq_iff {a b : Nat} : Nat.beq a b = true ↔ a = b := by rw [Nat.beq_eq]
theorem dig_8 (c j : Nat) : dig c j < 8 := Nat.mod_lt _ (by omega)
theorem swp_8 {i k : Nat} (hg : ∀ j, g j < 8) (j : Nat) : swp g i k j < 8 := by
  unfold swp
  rw [bcond, bcond]
  split
  · exact hg k
  · split
    · exact hg i
    · exact hg j
theorem rvs_8 : ∀ (n : Nat) (g : Nat → Nat) (a b : Nat), (∀ j, g j < 8) → ∀ j, rvs n g a b j < 8 := by
  intro n
  induction n with
  | zero => intro g a b hg j; exact hg j
  | succ n ih =>
    intro g a b hg j
    rw [rvs, bcond]
    split
    · exact ih _ _ _ (swp_8 hg) j
    · exact hg j
theorem nxG_8 (hg : ∀ j, g j < 8) (j : Nat) : nxG g j < 8 := rvs_8 _ _ _ _ (swp_8 hg) j
theorem dig_enc (hg : ∀ j, g j < 8) {j : Nat} (hj : j < 8) : dig (enc g) j = g j := by
  have h0 := hg 0
  have h1 := hg 1
  have h2 := hg 2
  have h3 := hg 3
  have h4 := hg 4
  have h5 := hg 5
  have h6 := hg 6
  have h7 := hg 7
  unfold dig enc
  have hc : j = 0 ∨ j = 1 ∨ j = 2 ∨ j = 3 ∨ j = 4 ∨ j = 5 ∨ j = 6 ∨ j = 7 := by omega
  obtain ⟨x0, e0⟩ : ∃ x, x = g 0 := ⟨_, rfl⟩
  obtain ⟨x1, e1⟩ : ∃ x, x = g 1 := ⟨_, rfl⟩
  obtain ⟨x2, e2⟩ : ∃ x, x = g 2 := ⟨_, rfl⟩
  obtain ⟨x3, e3⟩ : ∃ x, x = g 3 := ⟨_, rfl⟩
  obtain ⟨x4, e4⟩ : ∃ x, x = g 4 := ⟨_, rfl⟩
  obtain ⟨x5, e5⟩ : ∃ x, x = g 5 := ⟨_, rfl⟩
  obtain ⟨x6, e6⟩ : ∃ x, x = g 6 := ⟨_, rfl⟩
  obtain ⟨x7, e7⟩ : ∃ x, x = g 7 := ⟨_, rfl⟩
  rcases hc with rfl | rfl | rfl | rfl | rfl | rfl | rfl | rfl <;> simp only [← e0, ← e1, ← e2, ← e3, ← e4, ← e5, ← e6, ← e7] at * <;> clear e0 e1 e2 e3 e4 e5 e6 e7 hj hg <;> omega
theorem upI_le (g : Nat → Nat) : ∀ m, upI g m ≤ m := by
  intro m
  induction m with
  | zero => exact Nat.le_refl _
  | succ m ih =>
    rw [upI, bcond]
    split
    · omega
    · exact Nat.le_refl _
theorem mm_up (hg : ∀ j, g j < 8) (hN : PMm N g) : ∀ (m n : Nat) (x : Int32), x = nI m - nI 1 → m ≤ 7 → m < n → L_Mod_goesToNextNumbering_1 z N n x = some (nI (upI g m) - nI 1) := by
  intro m
  induction m with
  | zero =>
    intro n x hx hm hn
    obtain ⟨n, rfl⟩ : ∃ k, n = k + 1 := ⟨n - 1, by omega⟩
    have hneg : x < nI 0 := by rw [hx]; decide
    rw [L_Mod_goesToNextNumbering_1, if_neg (fun h => h hneg), ob1_ok, if_neg Bool.false_ne_true, hx]
    rfl
  | succ m ih =>
    intro n x hx hm hn
    obtain ⟨n, rfl⟩ : ∃ k, n = k + 1 := ⟨n - 1, by omega⟩
    have hx' : x = nI m := by rw [hx, nsb (by omega), Nat.add_sub_cancel]
    subst hx'
    have h1 := hg m
    have h2 := hg (m + 1)
    rw [L_Mod_goesToNextNumbering_1, if_pos (lF (Nat.zero_le _) (by omega)), ra_ok (by omega) (by omega), ob1_ok, nadd, ra_ok (by omega) (by omega), ob1_ok, ob1_ok, hN m (by omega), hN (m + 1) (by omega), upI, bcond]
    by_cases h : g (m + 1) < g m
    · rw [decide_eq_true (lT h (by omega)), if_pos rfl, if_pos (blt_iff.mpr h)]
      exact ih n _ rfl (by omega) (by omega)
    · rw [decide_eq_false (lF (by omega) (by omega)), if_neg Bool.false_ne_true, if_neg (fun h' => h (blt_iff.mp h')), nsb (by omega), Nat.add_sub_cancel]
theorem upK_rng (g : Nat → Nat) {i : Nat} : ∀ m, i < m → i ≤ upK g (g i) m ∧ upK g (g i) m < m := by
  intro m
  induction m with
  | zero => intro h; omega
  | succ m ih =>
    intro h
    rw [upK, bcond]
    by_cases h' : g m < g i
    · rw [if_pos (blt_iff.mpr h')]
      have hne : m ≠ i := fun e => by rw [e] at h'; omega
      have := ih (by omega)
      omega
    · rw [if_neg (fun h'' => h' (blt_iff.mp h''))]
      omega
theorem mm_upK (hg : ∀ j, g j < 8) (hN : PMm N g) {i : Nat} (hi : i < 8) : ∀ (m n : Nat) (x : Int32), x = nI m - nI 1 → i < m → m ≤ 8 → m < n → L_Mod_goesToNextNumbering_2 z (nI i) N n x = some (nI (upK g (g i) m)) := by
  intro m
  induction m with
  | zero => intro n x _ h; omega
  | succ m ih =>
    intro n x hx him hm hn
    obtain ⟨n, rfl⟩ : ∃ k, n = k + 1 := ⟨n - 1, by omega⟩
    have hx' : x = nI m := by rw [hx, nsb (by omega), Nat.add_sub_cancel]
    subst hx'
    have h1 := hg m
    have h2 := hg i
    rw [L_Mod_goesToNextNumbering_2, ra_ok (by omega) (by omega), ob1_ok, ra_ok (by omega) (by omega), ob1_ok, ob1_ok, hN m (by omega), hN i hi, upK, bcond]
    by_cases h : g m < g i
    · have hne : m ≠ i := fun e => by rw [e] at h; omega
      rw [decide_eq_true (lT h (by omega)), if_pos rfl, if_pos (blt_iff.mpr h)]
      exact ih n _ rfl (by omega) (by omega) (by omega)
    · rw [decide_eq_false (lF (by omega) (by omega)), if_neg Bool.false_ne_true, if_neg (fun h' => h (blt_iff.mp h'))]
theorem swp_ok (hN : PMm N g) {i k : Nat} : PMm (up (up N 340 i (nI (g k))) 340 k (nI (g i))) (swp g i k) := by
  intro j hj
  unfold swp
  rw [bcond, bcond]
  by_cases e : j = k
  · subst e
    rw [up_same]
    by_cases e2 : j = i
    · subst e2
      rw [if_pos (beq_iff.mpr rfl)]
    · rw [if_neg (fun h => e2 (beq_iff.mp h)), if_pos (beq_iff.mpr rfl)]
  · rw [up_neJ _ _ _ e]
    by_cases e2 : j = i
    · subst e2
      rw [up_same, if_pos (beq_iff.mpr rfl)]
    · rw [up_neJ _ _ _ e2, if_neg (fun h => e2 (beq_iff.mp h)), if_neg (fun h => e (beq_iff.mp h))]
      exact hN j hj
theorem mm_rvs : ∀ (r n : Nat) (g : Nat → Nat) (a b : Nat) (v : Int32) (N : mM), b ≤ a + 2 * r → b < 8 → a < 100 → r < n → PMm N g → ∃ v' b' N', L_Mod_goesToNextNumbering_3 z n v (nI b) (nI a) N = some (v', b', N') ∧ PMm N' (rvs r g a b) ∧ Fr [340] N N' := by
  intro r
  induction r with
  | zero =>
    intro n g a b v N hr hb ha hn hN
    obtain ⟨n, rfl⟩ : ∃ k, n = k + 1 := ⟨n - 1, by omega⟩
    rw [L_Mod_goesToNextNumbering_3, if_neg (lF (by omega) (by omega))]
    exact ⟨_, _, N, rfl, hN, Fr_rf _ _⟩
  | succ r ih =>
    intro n g a b v N hr hb ha hn hN
    obtain ⟨n, rfl⟩ : ∃ k, n = k + 1 := ⟨n - 1, by omega⟩
    by_cases hab : a < b
    · obtain ⟨v', b', N', g1, g2, g3⟩ := ih n (swp g a b) (a + 1) (b - 1) (nI (g a)) (up (up N 340 a (nI (g b))) 340 b (nI (g a))) (by omega) (by omega) (by omega) (by omega) (swp_ok hN)
      refine ⟨v', b', N', ?_, ?_, Fr_tr (Fr_up (Fr_up (Fr_rf _ _) (by simp)) (by simp)) g3⟩
      · rw [L_Mod_goesToNextNumbering_3, if_pos (lT hab (by omega)), ra_ok (by omega) (by omega), ob1_ok, ra_ok (by omega) (by omega), ob1_ok, wa_ok (by omega) (by omega), ob1_ok, wa_ok (by omega) (by omega), ob1_ok, hN a (by omega), hN b (by omega), nsb (by omega), nadd]
        exact g1
      · rw [rvs, bcond, if_pos (blt_iff.mpr hab)]
        exact g2
    · rw [L_Mod_goesToNextNumbering_3, if_neg (lF (by omega) (by omega))]
      refine ⟨_, _, N, rfl, ?_, Fr_rf _ _⟩
      rw [rvs, bcond, if_neg (fun h => hab (blt_iff.mp h))]
      exact hN
theorem mm_next (hz : 100 ≤ z) (hg : ∀ j, g j < 8) (hN : PMm N g) : ∃ N', F_Mod_goesToNextNumbering z N = some (!Nat.beq (upI g 7) 0, N') ∧ (upI g 7 ≠ 0 → PMm N' (nxG g)) ∧ Fr [340] N N' := by
  have hu := upI_le g 7
  unfold F_Mod_goesToNextNumbering
  rw [mm_up hg hN 7 z (nI 6) (by decide) (by omega) (by omega), ob1_ok]
  by_cases h0 : upI g 7 = 0
  · rw [h0, if_pos (show nI 0 - nI 1 < nI 0 by decide)]
    exact ⟨N, rfl, fun h => absurd rfl h, Fr_rf _ _⟩
  · obtain ⟨i, hi⟩ : ∃ i, upI g 7 = i + 1 := ⟨upI g 7 - 1, by omega⟩
    have hk := upK_rng g (i := i) 8 (by omega)
    obtain ⟨v', b', N', g1, g2, g3⟩ := mm_rvs (z := z) 4 z (swp g i (upK g (g i) 8)) (i + 1) 7 (nI (g i)) (up (up N 340 i (nI (g (upK g (g i) 8)))) 340 (upK g (g i) 8) (nI (g i))) (by omega) (by omega) (by omega) (by omega) (swp_ok hN)
    refine ⟨N', ?_, fun _ => ?_, Fr_tr (Fr_up (Fr_up (Fr_rf _ _) (by simp)) (by simp)) g3⟩
    · rw [hi, nsb (by omega), Nat.add_sub_cancel, if_neg (lF (Nat.zero_le _) (by omega)), mm_upK hg hN (show i < 8 by omega) 8 z (nI 7) (by decide) (by omega) (by omega) (by omega), ob1_ok, ra_ok (by omega) (by omega), ob1_ok, ra_ok (by omega) (by omega), ob1_ok, wa_ok (by omega) (by omega), ob1_ok, wa_ok (by omega) (by omega), ob1_ok, nadd, hN i (by omega), hN _ (by omega), g1, ob3_ok]
      rfl
    · unfold nxG
      rw [hi, Nat.add_sub_cancel]
      exact g2
/-! whether two wings are alike under a numbering -/
def alR (a b : Nat → Nat) (g : Nat → Nat) (i : Nat) : Nat → Bool
  | 0 => true
  | j + 1 => alR a b g i j && ((a i).testBit j == (b (g i)).testBit (g j))
def alB (a b : Nat → Nat) (g : Nat → Nat) : Nat → Bool
  | 0 => true
  | i + 1 => alB a b g i && alR a b g i i
theorem alR_iff {a b : Nat → Nat} {i : Nat} : ∀ n, alR a b g i n = true ↔ ∀ j, j < n → (a i).testBit j = (b (g i)).testBit (g j) := by
  intro n
  induction n with
  | zero => exact ⟨fun _ j hj => absurd hj (Nat.not_lt_zero j), fun _ => rfl⟩
  | succ n ih =>
    rw [alR, Bool.and_eq_true, ih, beq_iff_eq]
    constructor
    · intro h j hj
      by_cases e : j = n
      · rw [e]; exact h.2
      · exact h.1 j (by omega)
    · intro h
      exact ⟨fun j hj => h j (by omega), h n (by omega)⟩
theorem alB_iff {a b : Nat → Nat} : ∀ n, alB a b g n = true ↔ ∀ i j, i < n → j < i → (a i).testBit j = (b (g i)).testBit (g j) := by
  intro n
  induction n with
  | zero => exact ⟨fun _ i j hi => absurd hi (Nat.not_lt_zero i), fun _ => rfl⟩
  | succ n ih =>
    rw [alB, Bool.and_eq_true, ih, alR_iff]
    constructor
    · intro h i j hi hj
      by_cases e : i = n
      · subst e; exact h.2 j hj
      · exact h.1 i j (by omega) hj
    · intro h
      exact ⟨fun i j hi hj => h i j (by omega) hj, fun j hj => h n j (by omega) hj⟩
/-- the model's rows hold two wings -/
def VW (N : mM) (a b : Nat → Nat) : Prop := ∀ i, i < 8 → (a i < 256 ∧ N 339 i = nI (a i)) ∧ b i < 256 ∧ N 339 (8 + i) = nI (b i)
theorem l_alike2 (hV : VW N a b) (hg : ∀ j, g j < 8) (hN : PMm N g) {i : Nat} (hi : i < 8) (kt : Option Bool) : ∀ (m k n : Nat), k + m = i → m < n → alR a b g i k = true → L_Mod_isAlike_2 z (nI i) N kt n (nI k) = if alR a b g i i = true then kt else some false := by
  intro m
  induction m with
  | zero =>
    intro k n hk hn h
    obtain ⟨n, rfl⟩ : ∃ k, n = k + 1 := ⟨n - 1, by omega⟩
    have ek : k = i := by omega
    subst ek
    rw [L_Mod_isAlike_2, if_neg (lF (by omega) (by omega)), if_pos h]
  | succ m ih =>
    intro k n hk hn h
    obtain ⟨n, rfl⟩ : ∃ k, n = k + 1 := ⟨n - 1, by omega⟩
    have h1 := (hV i hi).1
    have h2 := (hV (g i) (hg i)).2
    have hgi := hg i
    have hgk := hg k
    rw [L_Mod_isAlike_2, if_pos (lT (by omega) (by omega)), ra_ok (by omega) (by omega), ob1_ok, ra_ok (by omega) (by omega), ob1_ok, hN i hi, nadd, ra_ok (by omega) (by omega), ob1_ok, ra_ok (by omega) (by omega), ob1_ok, ob1_ok, hN k (by omega), h1.2, h2.2, has_n (by omega) (by omega), has_n (by omega) (by omega), nadd]
    by_cases e : (a i).testBit k = (b (g i)).testBit (g k)
    · rw [decide_eq_false (fun h => h e), if_neg Bool.false_ne_true]
      exact ih (k + 1) n (by omega) (by omega) (by rw [alR, h, beq_iff_eq.mpr e]; rfl)
    · rw [decide_eq_true e, if_pos rfl, if_neg (fun h' => e ((alR_iff i).mp h' k (by omega)))]
theorem l_alike1 (hz : 100 ≤ z) (hV : VW N a b) (hg : ∀ j, g j < 8) (hN : PMm N g) : ∀ (m k n : Nat), k + m = 8 → m < n → alB a b g k = true → L_Mod_isAlike_1 z N (some true) n (nI k) = some (alB a b g 8) := by
  intro m
  induction m with
  | zero =>
    intro k n hk hn h
    obtain ⟨n, rfl⟩ : ∃ k, n = k + 1 := ⟨n - 1, by omega⟩
    have ek : k = 8 := by omega
    subst ek
    rw [L_Mod_isAlike_1, if_neg (lF (by omega) (by omega)), h]
  | succ m ih =>
    intro k n hk hn h
    obtain ⟨n, rfl⟩ : ∃ k, n = k + 1 := ⟨n - 1, by omega⟩
    rw [L_Mod_isAlike_1, if_pos (lT (by omega) (by omega)), l_alike2 hV hg hN (show k < 8 by omega) _ k 0 z (by omega) (by omega) rfl, nadd]
    by_cases e : alR a b g k k = true
    · rw [if_pos e]
      exact ih (k + 1) n (by omega) (by omega) (by rw [alB, h, e]; rfl)
    · rw [if_neg e]
      cases h8 : alB a b g 8 with
      | false => rfl
      | true => exact absurd ((alR_iff k).mpr (fun j hj => (alB_iff 8).mp h8 k j (by omega) hj)) e
theorem mm_alike (hz : 100 ≤ z) (hV : VW N a b) (hg : ∀ j, g j < 8) (hN : PMm N g) : F_Mod_isAlike z N = some (alB a b g 8) := l_alike1 hz hV hg hN 8 0 z (by omega) (by omega) rfl
end S81
