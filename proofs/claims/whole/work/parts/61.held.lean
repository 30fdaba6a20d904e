/-! ===== how many ways of holding: both ways ===== -/
section S61
variable {z : Nat} {M N : mM}
def EH (M N : mM) : Prop := ∀ j, j < 31 → ∃ a, a < 1000000007 ∧ M 142 j = nI a ∧ N 342 j = nI a
theorem l_fing3 {s : Nat} (hs : s ≤ 30) (hE : EH M N) : ∀ (m k n a : Nat), k + m = 6 → m < n → a < 1000000007 → ∃ r, r < 1000000007 ∧ L_Asker_fingers_3 z (nI s) M n (nI a) (nI k) = some (nI r) ∧ L_Mod_held_4 z (nI s) N n (nI a) (nI k) = some (nI r) := by
  intro m
  induction m with
  | zero =>
    intro k n a hk hn ha
    obtain ⟨n, rfl⟩ : ∃ k, n = k + 1 := ⟨n - 1, by omega⟩
    rw [L_Asker_fingers_3, L_Mod_held_4, if_neg (fun h => h.1 (lT (by omega) (by omega))), if_neg (fun h => lF (by omega) (by omega) h.1)]
    exact ⟨a, ha, rfl, rfl⟩
  | succ m ih =>
    intro k n a hk hn ha
    obtain ⟨n, rfl⟩ : ∃ k, n = k + 1 := ⟨n - 1, by omega⟩
    by_cases h : s < k
    · rw [L_Asker_fingers_3, L_Mod_held_4, if_neg (fun h' => h'.2 (lT h (by omega))), if_neg (fun h' => h'.2 (lT h (by omega)))]
      exact ⟨a, ha, rfl, rfl⟩
    · obtain ⟨b, hb, e1, e2⟩ := hE (s - k) (by omega)
      rw [L_Asker_fingers_3, L_Mod_held_4, if_pos ⟨lF (by omega) (by omega), lF (by omega) (by omega)⟩, if_pos ⟨lT (by omega) (by omega), lF (by omega) (by omega)⟩, nsb (by omega), ra_ok (by omega) (by omega), ra_ok (by omega) (by omega), ob1_ok, ob1_ok, ob1_ok, e1, e2, rem_n ha hb, added_n ha hb, nadd]
      exact ih (k + 1) n _ (by omega) (by omega) (Nat.mod_lt _ (by omega))
theorem l_fing2 (hz : 100 ≤ z) {l : Nat} (hl : l ≤ 1) : ∀ (m n : Nat) (M N : mM) (x : Int32), x = nI m - nI 1 → m ≤ 31 → m < n → EH M N → ∃ M' N', L_Asker_fingers_2 z (nI l) n x M = some M' ∧ L_Mod_held_3 z (nI l) n x N = some N' ∧ EH M' N' ∧ Fr [142] M M' ∧ Fr [342] N N' := by
  intro m
  induction m with
  | zero =>
    intro n M N x hx hm hn hE
    obtain ⟨n, rfl⟩ : ∃ k, n = k + 1 := ⟨n - 1, by omega⟩
    have hneg : x < nI 0 := by rw [hx]; decide
    rw [L_Asker_fingers_2, L_Mod_held_3, if_neg (fun h => h hneg), if_neg (fun h => h hneg)]
    exact ⟨M, N, rfl, rfl, hE, Fr_rf _ _, Fr_rf _ _⟩
  | succ m ih =>
    intro n M N x hx hm hn hE
    obtain ⟨n, rfl⟩ : ∃ k, n = k + 1 := ⟨n - 1, by omega⟩
    have hx' : x = nI m := by rw [hx, nsb (by omega), Nat.add_sub_cancel]
    subst hx'
    have hnn : ¬ nI m < nI 0 := lF (Nat.zero_le _) (by omega)
    have hstep : nI m + (-1) = nI m - nI 1 := by rw [show nI 1 = (1 : Int32) from rfl]; grind
    obtain ⟨r, hr, a1, a2⟩ := l_fing3 (z := z) (show m ≤ 30 by omega) hE (6 - l) l z 0 (by omega) (by omega) (by omega)
    obtain ⟨M', N', b1, b2, b3, b4, b5⟩ := ih n (up M 142 m (nI r)) (up N 342 m (nI r)) _ hstep (by omega) (by omega) (fun j hj => by
      by_cases h : j = m
      · subst h
        exact ⟨r, hr, up_same _ _ _ _, up_same _ _ _ _⟩
      · rw [up_neJ _ _ _ h, up_neJ _ _ _ h]
        exact hE j hj)
    refine ⟨M', N', ?_, ?_, b3, Fr_tr (Fr_up (Fr_rf _ _) (by simp)) b4, Fr_tr (Fr_up (Fr_rf _ _) (by simp)) b5⟩
    · rw [L_Asker_fingers_2, if_pos hnn, a1, ob1_ok, wa_ok (by omega) (by omega), ob1_ok, b1]
    · rw [L_Mod_held_3, if_pos hnn, a2, ob1_ok, wa_ok (by omega) (by omega), ob1_ok, b2]
theorem l_fing1 (hz : 100 ≤ z) {l s : Nat} (hl : l ≤ 1) (hs : s ≤ 30) {H : Nat} (hH : H ≤ 9) : ∀ (m k n : Nat) (M N : mM), k + m = H → m < n → EH M N → ∃ M' N', L_Asker_fingers_1 z (nI s) (nI H) (nI l) n (nI k) M = some M' ∧ L_Mod_held_2 z (nI s) (nI H) (nI l) n (nI k) N = some N' ∧ EH M' N' ∧ Fr [142] M M' ∧ Fr [342] N N' := by
  intro m
  induction m with
  | zero =>
    intro k n M N hk hn hE
    obtain ⟨n, rfl⟩ : ∃ k, n = k + 1 := ⟨n - 1, by omega⟩
    rw [L_Asker_fingers_1, L_Mod_held_2, if_neg (lF (by omega) (by omega)), if_neg (lF (by omega) (by omega))]
    exact ⟨M, N, rfl, rfl, hE, Fr_rf _ _, Fr_rf _ _⟩
  | succ m ih =>
    intro k n M N hk hn hE
    obtain ⟨n, rfl⟩ : ∃ k, n = k + 1 := ⟨n - 1, by omega⟩
    have hs1 : nI s = nI (s + 1) - nI 1 := by rw [nsb (by omega), Nat.add_sub_cancel]
    obtain ⟨M1, N1, a1, a2, a3, a4, a5⟩ := l_fing2 hz hl (s + 1) z M N (nI s) hs1 (by omega) (by omega) hE
    obtain ⟨M', N', b1, b2, b3, b4, b5⟩ := ih (k + 1) n M1 N1 (by omega) (by omega) a3
    refine ⟨M', N', ?_, ?_, b3, Fr_tr a4 b4, Fr_tr a5 b5⟩
    · rw [L_Asker_fingers_1, if_pos (lT (by omega) (by omega)), ob1_ok, nsb (by omega), min_nn (by omega) (by omega), a1, ob1_ok, nadd, b1]
    · rw [L_Mod_held_2, if_pos (lT (by omega) (by omega)), a2, ob1_ok, nadd, b2]
theorem l_held1 : ∀ (m k n : Nat) (N : mM), k + m = 31 → m < n → L_Mod_held_1 z n (nI k) N = some (fil N 342 k 31 (fun j => if j = 0 then nI 1 else nI 0)) := by
  intro m
  induction m with
  | zero =>
    intro k n N hk hn
    obtain ⟨n, rfl⟩ : ∃ k, n = k + 1 := ⟨n - 1, by omega⟩
    rw [L_Mod_held_1, if_neg (lF (by omega) (by omega)), fil_end (by omega)]
  | succ m ih =>
    intro k n N hk hn
    obtain ⟨n, rfl⟩ : ∃ k, n = k + 1 := ⟨n - 1, by omega⟩
    have e : (if nI k = nI 0 then nI 1 else nI 0) = if k = 0 then nI 1 else nI 0 := by
      by_cases h : k = 0
      · rw [h, if_pos rfl, if_pos rfl]
      · rw [if_neg (eF h (by omega) (by omega)), if_neg h]
    rw [L_Mod_held_1, if_pos (lT (by omega) (by omega)), ob1_ok, wa_ok (by omega) (by omega), ob1_ok, nadd, e, ih (k + 1) n _ (by omega) (by omega)]
    exact congrArg some (fil_step (g := fun j => if j = 0 then nI 1 else nI 0) (g' := fun j => if j = 0 then nI 1 else nI 0) (by omega) (fun _ _ _ => rfl))
theorem b_held (hz : 100 ≤ z) (x y w : Int32) : ∃ v M' N', F_Rec_held z x y w M = some (v, M') ∧ F_Mod_held z x y w N = some (v, N') ∧ Fr [142] M M' ∧ Fr [342] N N' := by
  unfold F_Rec_held F_Mod_held
  rw [isIn_eq, isIn_eq, isIn_eq]
  by_cases hb : (¬ F_Rec_within x (nI 1) (nI 30) = true ∨ ¬ F_Rec_within y (nI 1) (nI 9) = true) ∨ ¬ F_Rec_within w (nI 0) (nI 1) = true
  · rw [if_pos hb, if_pos hb]
    exact ⟨_, M, N, rfl, rfl, Fr_rf _ _, Fr_rf _ _⟩
  · rw [if_neg hb, if_neg hb]
    have h1 : F_Rec_within x (nI 1) (nI 30) = true := Classical.byContradiction fun h => hb (Or.inl (Or.inl h))
    have h2 : F_Rec_within y (nI 1) (nI 9) = true := Classical.byContradiction fun h => hb (Or.inl (Or.inr h))
    have h3 : F_Rec_within w (nI 0) (nI 1) = true := Classical.byContradiction fun h => hb (Or.inr h)
    obtain ⟨s, s1, s2, rfl⟩ := rng_n (by omega) (by omega) (of_decide_eq_true h1)
    obtain ⟨H, H1, H2, rfl⟩ := rng_n (by omega) (by omega) (of_decide_eq_true h2)
    obtain ⟨l, -, l2, rfl⟩ := rng_n (by omega) (by omega) (of_decide_eq_true h3)
    have hE : EH (up (fil M 142 0 31 (fun _ => nI 0)) 142 0 (nI 1)) (fil N 342 0 31 (fun j => if j = 0 then nI 1 else nI 0)) := fun j hj => by
      rw [fil_at, if_pos ⟨Nat.zero_le _, hj⟩]
      by_cases h : j = 0
      · subst h
        exact ⟨1, by omega, up_same _ _ _ _, if_pos rfl⟩
      · refine ⟨0, by omega, ?_, if_neg h⟩
        rw [up_neJ _ _ _ h, fil_at, if_pos ⟨Nat.zero_le _, hj⟩]
    obtain ⟨M', N', a1, a2, a3, a4, a5⟩ := l_fing1 hz l2 s2 H2 H 0 z _ _ (by omega) (by omega) hE
    obtain ⟨a, -, e1, e2⟩ := a3 s (by omega)
    refine ⟨nI a, M', N', ?_, ?_, Fr_tr (Fr_up (Fr_upR (Fr_rf _ _) (by simp)) (by simp)) a4, Fr_tr (Fr_upR (Fr_rf _ _) (by simp)) a5⟩
    · unfold F_Asker_fingers
      rw [fill_ok (by omega) (by omega), ob1_ok, wa_ok (by omega) (by omega), ob1_ok, a1, ob1_ok, if_pos (lT (by omega) (by omega)), ra_ok (by omega) (by omega), ob1_ok, ob1_ok, ob2_ok, e1]
    · rw [l_held1 31 0 z N (by omega) (by omega), ob1_ok, a2, ob1_ok, ra_ok (by omega) (by omega), ob1_ok, e2]
end S61
