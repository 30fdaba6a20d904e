/-! ===== the longest chain; says: both ways ===== -/
section S68
variable {z : Nat} {M N : mM} {p : Nat → Nat} {W : Wd} {c : Nat} {F : Rw} {T : Tx}
/-- the chains of the first k inches stand in both rows -/
def EL (k : Nat) (M N : mM) : Prop := ∀ j, j < k → ∃ a, a ≤ j + 1 ∧ M 139 j = nI a ∧ N 332 j = nI a
theorem l_below (hz : 100 ≤ z) (hf : wf c W) (hc : c < 2147483648) (hC : CW false 1 M p W) {i ti : Nat} (hi : i < 60) (hti : wAt W (nI i) = some ti) : ∀ (m k n a : Nat) (N : mM), k + m = i → m < n → a ≤ i → RM N W → EL i M N → N 332 i = nI a →
    ∃ a' N', a' ≤ i ∧ L_Asker_longestBelow_1 z 1 (nI i) (wT W ti 5) M n (nI a) (nI k) = some (nI a') ∧ L_Mod_longest_2 z (nI i) n (nI k) N = some N' ∧ N' 332 i = nI a' ∧ (∀ j, j ≠ i → N' 332 j = N 332 j) ∧ Fr [332] N N' := by
  have h20 := wf_20 hf
  have hltN := (wAt_some hti).1
  intro m
  induction m with
  | zero =>
    intro k n a N hk hn ha hR hE hN
    obtain ⟨n, rfl⟩ : ∃ k, n = k + 1 := ⟨n - 1, by omega⟩
    refine ⟨a, N, ha, ?_, ?_, hN, fun _ _ => rfl, Fr_rf _ _⟩
    · rw [L_Asker_longestBelow_1, if_neg (lF (by omega) (by omega))]
    · rw [L_Mod_longest_2, if_neg (lF (by omega) (by omega))]
  | succ m ih =>
    intro k n a N hk hn ha hR hE hN
    obtain ⟨n, rfl⟩ : ∃ k, n = k + 1 := ⟨n - 1, by omega⟩
    obtain ⟨b, hb, e1, e2⟩ := hE k (by omega)
    rw [L_Asker_longestBelow_1, L_Mod_longest_2, if_pos (lT (by omega) (by omega)), if_pos (lT (by omega) (by omega)), ra_ok (by omega) (by omega), ob1_ok, ob1_ok, e1, mm_isTaken (by omega) hR h20, ob1_ok, ob1_ok, ob1_ok, nadd]
    have same := ih (k + 1) n a N (by omega) (by omega) ha hR hE hN
    cases h : wAt W (nI k) with
    | none =>
      have ec : (if decide (nI a < nI b) = true then ob1 (F_World_thingAt z 1 (nI k) M) fun c49 => some c49 else some none) = some none := by
        by_cases h' : nI a < nI b
        · rw [decide_eq_true h', if_pos rfl, cw_thingAt (by omega) isW_1 hC hf hc, h, ob1_ok]
          rfl
        · rw [decide_eq_false h', if_neg Bool.false_ne_true]
      rw [ec, ob1_ok, if_neg (show ¬ ¬ (none : Option Nat) = none from fun h => h rfl), ob1_ok, if_neg Bool.false_ne_true, ob1_ok, if_neg (show ¬ (none : Option Nat).isSome = true from Bool.false_ne_true), ob1_ok, if_neg Bool.false_ne_true, ob1_ok]
      exact same
    | some t =>
      have ht := (wAt_some h).1
      rw [if_pos (show (some t).isSome = true from rfl), mm_stuckAt (by omega) hR h20, h, oI_some, ob1_ok, mm_thingAt, nadd, ra_ok (by omega) (by omega), ob1_ok, RM_T hR ht (by omega), mm_stuckAt (by omega) hR h20, hti, oI_some, ob1_ok, mm_thingAt, nadd, ra_ok (by omega) (by omega), ob1_ok, ob1_ok, RM_T hR hltN (by omega)]
      by_cases hab : a < b
      · rw [decide_eq_true (lT hab (by omega)), if_pos rfl, cw_thingAt (by omega) isW_1 hC hf hc, h, ob1_ok, ob1_ok, if_pos (show ¬ (Option.map p (some t) : Option Nat) = none from fun h => by cases h), dT_ok hC (by omega), ob1_ok, ob1_ok, CW_T hC ht (by omega)]
        by_cases hg : wT W t 5 < wT W ti 5
        · obtain ⟨a', N', g0, g1, g2, g3, g4, g5⟩ := ih (k + 1) n b (up N 332 i (nI b)) (by omega) (by omega) (by omega) (RM_congr (upC (by omega)) (upC (by omega)) hR) (fun j hj => by
            obtain ⟨x, x1, x2, x3⟩ := hE j hj
            exact ⟨x, x1, x2, by rw [up_neJ _ _ _ (by omega)]; exact x3⟩) (up_same _ _ _ _)
          refine ⟨a', N', g0, ?_, ?_, g3, fun j hj => by rw [g4 j hj, up_neJ _ _ _ hj], Fr_tr (Fr_up (Fr_rf _ _) (by simp)) g5⟩
          · rw [decide_eq_true hg, if_pos rfl, ob1_ok]
            exact g1
          · unfold F_Mod_greater
            rw [decide_eq_true hg, if_pos rfl, ra_ok (by omega) (by omega), ob1_ok, ra_ok (by omega) (by omega), ob1_ok, hN, e2, if_neg (lF (by omega) (by omega)), wa_ok (by omega) (by omega), ob1_ok, ob1_ok]
            exact g2
        · rw [decide_eq_false hg, if_neg Bool.false_ne_true, if_neg Bool.false_ne_true, ob1_ok, ob1_ok]
          exact same
      · rw [decide_eq_false (lF (by omega) (by omega)), if_neg Bool.false_ne_true, ob1_ok, if_neg (show ¬ ¬ (none : Option Nat) = none from fun h => h rfl), ob1_ok, if_neg Bool.false_ne_true, ob1_ok]
        by_cases hg : wT W t 5 < wT W ti 5
        · have e332 : (if nI b < nI a then nI a else nI b) = nI a := by
            by_cases h' : b < a
            · rw [if_pos (lT h' (by omega))]
            · rw [if_neg (lF (by omega) (by omega)), show b = a by omega]
          obtain ⟨a', N', g0, g1, g2, g3, g4, g5⟩ := ih (k + 1) n a (up N 332 i (nI a)) (by omega) (by omega) ha (RM_congr (upC (by omega)) (upC (by omega)) hR) (fun j hj => by
            obtain ⟨x, x1, x2, x3⟩ := hE j hj
            exact ⟨x, x1, x2, by rw [up_neJ _ _ _ (by omega)]; exact x3⟩) (up_same _ _ _ _)
          refine ⟨a', N', g0, g1, ?_, g3, fun j hj => by rw [g4 j hj, up_neJ _ _ _ hj], Fr_tr (Fr_up (Fr_rf _ _) (by simp)) g5⟩
          unfold F_Mod_greater
          rw [decide_eq_true hg, if_pos rfl, ra_ok (by omega) (by omega), ob1_ok, ra_ok (by omega) (by omega), ob1_ok, hN, e2, e332, wa_ok (by omega) (by omega), ob1_ok, ob1_ok]
          exact g2
        · rw [decide_eq_false hg, if_neg Bool.false_ne_true, ob1_ok]
          exact same
theorem max_nn {a b : Nat} (ha : a < 2147483648) (hb : b < 2147483648) : F_Math_max (nI a) (nI b) = nI (max a b) ∧ F_Mod_greater (nI a) (nI b) = nI (max a b) := by
  unfold F_Math_max F_Mod_greater
  constructor
  · by_cases h : a < b
    · rw [if_pos (lT h hb), Nat.max_eq_right (by omega)]
    · rw [if_neg (lF (by omega) ha), Nat.max_eq_left (by omega)]
  · by_cases h : b < a
    · rw [if_pos (lT h ha), Nat.max_eq_left (by omega)]
    · rw [if_neg (lF (by omega) hb), Nat.max_eq_right (by omega)]
theorem l_longest (hz : 100 ≤ z) (hf : wf c W) (hc : c < 2147483648) : ∀ (m k n a : Nat) (M N : mM), k + m = 60 → m < n → a ≤ 60 → CW false 1 M p W → RM N W → EL k M N →
    ∃ v M' N', L_Asker_longest_1 z 1 n (nI a) (nI k) M = some (v, M') ∧ L_Mod_longest_1 z n (nI a) (nI k) N = some (v, N') ∧ Fr [139] M M' ∧ Fr [332] N N' := by
  have h20 := wf_20 hf
  intro m
  induction m with
  | zero =>
    intro k n a M N hk hn ha hC hR hE
    obtain ⟨n, rfl⟩ : ∃ k, n = k + 1 := ⟨n - 1, by omega⟩
    rw [L_Asker_longest_1, L_Mod_longest_1, if_neg (lF (by omega) (by omega)), if_neg (lF (by omega) (by omega))]
    exact ⟨_, M, N, rfl, rfl, Fr_rf _ _, Fr_rf _ _⟩
  | succ m ih =>
    intro k n a M N hk hn ha hC hR hE
    obtain ⟨n, rfl⟩ : ∃ k, n = k + 1 := ⟨n - 1, by omega⟩
    obtain ⟨N1, dN⟩ : ∃ N1, N1 = up N 332 k (nI 0) := ⟨_, rfl⟩
    have n1 : ∀ c', c' ≠ 332 → N1 c' = N c' := fun c' h => by rw [dN, upC h]
    have R1 : RM N1 W := RM_congr (n1 313 (by omega)) (n1 316 (by omega)) hR
    have f1 : Fr [332] N N1 := fun c' h => n1 c' (by simp only [List.mem_cons, List.not_mem_nil, or_false] at h; exact h)
    have E1 : EL k M N1 := fun j hj => by
      obtain ⟨x, x1, x2, x3⟩ := hE j hj
      exact ⟨x, x1, x2, by rw [dN, up_neJ _ _ _ (by omega)]; exact x3⟩
    rw [L_Asker_longest_1, L_Mod_longest_1, if_pos (lT (by omega) (by omega)), if_pos (lT (by omega) (by omega)), cw_thingAt (by omega) isW_1 hC hf hc, ob1_ok, wa_ok (by omega) (by omega), ob1_ok, ← dN, mm_isTaken (by omega) R1 h20, ob1_ok, ob1_ok, ob1_ok, nadd]
    cases h : wAt W (nI k) with
    | none =>
      rw [if_pos (show (Option.map p none : Option Nat) = none from rfl), ob1_ok, wa_ok (by omega) (by omega), ob1_ok, ra_ok (by omega) (by omega), ob1_ok, up_same, (max_nn (show a < 2147483648 by omega) (show 0 < 2147483648 by omega)).1, Nat.max_zero, if_pos (show (!(none : Option Nat).isSome) = true from rfl)]
      obtain ⟨v, M', N', g1, g2, g3, g4⟩ := ih (k + 1) n a (up M 139 k (nI 0)) N1 (by omega) (by omega) ha (CW_congr hC (fun c' h => upC (by unfold inW at h; omega))) R1 (fun j hj => by
        by_cases e : j = k
        · subst e
          exact ⟨0, by omega, up_same _ _ _ _, by rw [dN, up_same]⟩
        · obtain ⟨x, x1, x2, x3⟩ := E1 j (by omega)
          exact ⟨x, x1, by rw [up_neJ _ _ _ e]; exact x2, x3⟩)
      exact ⟨v, M', N', g1, g2, Fr_tr (Fr_up (Fr_rf _ _) (by simp)) g3, Fr_tr f1 g4⟩
    | some t =>
      have ht := (wAt_some h).1
      obtain ⟨b, N2, b0, b1, b2, b3, b4, b5⟩ := l_below (z := z) hz hf hc hC (show k < 60 by omega) h k 0 z 0 N1 (by omega) (by omega) (by omega) R1 E1 (by rw [dN, up_same])
      have n2 : ∀ c', c' ≠ 332 → N2 c' = N1 c' := fun c' h => b5 c' (by simp only [List.mem_cons, List.not_mem_nil, or_false]; exact h)
      obtain ⟨v, M', N', g1, g2, g3, g4⟩ := ih (k + 1) n (max a (1 + b)) (up M 139 k (nI (1 + b))) (up N2 332 k (nI (1 + b))) (by omega) (by omega) (by omega) (CW_congr hC (fun c' h => upC (by unfold inW at h; omega))) (RM_congr (by rw [upC (by omega), n2 313 (by omega)]) (by rw [upC (by omega), n2 316 (by omega)]) R1) (fun j hj => by
        by_cases e : j = k
        · subst e
          exact ⟨1 + b, by omega, up_same _ _ _ _, up_same _ _ _ _⟩
        · obtain ⟨x, x1, x2, x3⟩ := E1 j (by omega)
          exact ⟨x, x1, by rw [up_neJ _ _ _ e]; exact x2, by rw [up_neJ _ _ _ e, b4 j e]; exact x3⟩)
      refine ⟨v, M', N', ?_, ?_, Fr_tr (Fr_up (Fr_rf _ _) (by simp)) g3, Fr_tr f1 (Fr_tr b5 (Fr_tr (Fr_up (Fr_rf _ _) (by simp)) g4))⟩
      · unfold F_Asker_longestBelow
        rw [if_neg (show ¬ (Option.map p (some t) : Option Nat) = none from fun h => by cases h), dT_ok hC (by omega), ob1_ok, CW_T hC ht (by omega), b1, ob1_ok, ob1_ok, nadd, ob1_ok, wa_ok (by omega) (by omega), ob1_ok, ra_ok (by omega) (by omega), ob1_ok, up_same, (max_nn (by omega) (by omega)).1]
        exact g1
      · rw [if_neg (show ¬ (!(some t).isSome) = true from Bool.false_ne_true), b2, ob1_ok, ra_ok (by omega) (by omega), ob1_ok, b3, nadd, Nat.add_comm b 1, wa_ok (by omega) (by omega), ob1_ok, ra_ok (by omega) (by omega), ob1_ok, up_same, (max_nn (by omega) (by omega)).2]
        exact g2
theorem b_says (hz : 100 ≤ z) (hf : wf c W) (hc : c < 2147483648) (hT : okT T) (hCT : CT 28 M T) (hMT : MT N T) (hC : CW false 1 M p W) (hR : RM N W) (what : Int32) :
    ∃ v M' N', F_Rec_says z what M = some (v, M') ∧ F_Mod_says z what N = some (v, N') ∧ Fr [139, 140] M M' ∧ Fr [332, 334] N N' := by
  obtain ⟨F, eF'⟩ : ∃ F, F = tRow T := ⟨_, rfl⟩
  have h8 : F.1 ≤ 8 := eF' ▸ hT.2.1.1
  have hM' : N 312 39 = nI F.1 ∧ ∀ j, j < F.1 → N 333 j = F.2 j 0 := eF' ▸ hMT.2.1
  obtain ⟨h0, hN⟩ := hM'
  unfold F_Rec_says F_Mod_says
  rw [isIn_eq]
  by_cases hw : F_Rec_within what (nI 0) (nI 2) = true
  · obtain ⟨K, -, hK, rfl⟩ := rng_n (by omega) (by omega) (of_decide_eq_true hw)
    have hcases : K = 0 ∨ K = 1 ∨ K = 2 := by omega
    rw [if_neg (show ¬ ¬ F_Rec_within (nI K) (nI 0) (nI 2) = true from fun h => h hw)]
    rcases hcases with rfl | rfl | rfl
    · obtain ⟨M', a1, a2⟩ := b_ways hz hf hc hT hCT hC false
      rw [if_neg Bool.false_ne_true, ← eF'] at a1
      have g := l_doesSay hz hf hR h8 h0 hN 60 0 z (by omega) (by omega)
      have g' : L_Mod_doesSay_1 z N z (nI 0) (nI 0) = some (nI (grW W (rr0 F) F.1 60)) := g
      have hd := dp_gr (W := W) (R := rr0 F) (s := F.1) 60 F.1 (Nat.le_refl _)
      have hg := gr_le (W := W) (R := rr0 F) (s := F.1) 60
      refine ⟨if 1 ≤ dpW W (rr0 F) F.1 60 F.1 then nI 1 else nI 0, M', N, ?_, ?_, Fr_wk a2 (fun c' h => by simp only [List.mem_cons, List.not_mem_nil, or_false] at h ⊢; omega), Fr_rf _ _⟩
      · rw [if_pos rfl, a1, ob2_ok]
      · unfold F_Mod_doesSay
        rw [if_pos rfl, g', ob1_ok, ob1_ok, ob1_ok, h0]
        by_cases e : 1 ≤ dpW W (rr0 F) F.1 60 F.1
        · rw [if_pos e, show grW W (rr0 F) F.1 60 = F.1 from Nat.le_antisymm hg (hd.mp e), decide_eq_true rfl, if_pos rfl, ob1_ok, ob2_ok]
        · rw [if_neg e, decide_eq_false (eF (fun h => e (hd.mpr (by omega))) (by omega) (by omega)), if_neg Bool.false_ne_true, ob1_ok, ob2_ok]
    · obtain ⟨M', a1, a2⟩ := b_ways hz hf hc hT hCT hC true
      rw [if_pos rfl, ← eF'] at a1
      obtain ⟨N1, dN⟩ : ∃ N1, N1 = fil N 334 0 16 (fun j => if j = 0 then nI 1 else nI 0) := ⟨_, rfl⟩
      have n1 : ∀ c', c' ≠ 334 → N1 c' = N c' := fun c' h => by rw [dN, fil_ne h]
      obtain ⟨N', b1, b2, b3⟩ := l_mways2 (z := z) hz hf h8 60 0 z N1 (by omega) (by omega) (RM_congr (n1 313 (by omega)) (n1 316 (by omega)) hR) (by rw [n1 312 (by omega)]; exact h0) (fun j hj => by rw [n1 333 (by omega)]; exact hN j hj) (fun j hj => by
        rw [dN, fil_at, if_pos ⟨Nat.zero_le _, by omega⟩]
        show (if j = 0 then nI 1 else nI 0) = nI (if j = 0 then 1 else 0)
        split <;> rfl)
      refine ⟨nI (dpW W (rr0 F) F.1 60 F.1), M', N', ?_, ?_, Fr_wk a2 (fun c' h => by simp only [List.mem_cons, List.not_mem_nil, or_false] at h ⊢; omega), fun c' h => ?_⟩
      · rw [if_neg (show ¬ nI 1 = nI 0 by decide), if_pos rfl, a1, ob2_ok]
      · unfold F_Mod_sayingWays
        rw [if_neg (show ¬ nI 1 = nI 0 by decide), if_pos rfl, l_mways1 16 0 z N (by omega) (by omega), ob1_ok, ← dN, b1, ob1_ok, b2 312 (by simp), n1 312 (by omega), h0, ra_ok (by omega) (by omega), ob1_ok, ob2_ok, ob2_ok, ob2_ok, b3 _ (Nat.le_refl _)]
      · simp only [List.mem_cons, List.not_mem_nil, or_false] at h
        rw [b2 c' (by simp only [List.mem_cons, List.not_mem_nil, or_false]; omega), n1 c' (by omega)]
    · obtain ⟨v, M', N', g1, g2, g3, g4⟩ := l_longest (z := z) hz hf hc 60 0 z 0 M N (by omega) (by omega) (by omega) hC hR (fun j hj => absurd hj (Nat.not_lt_zero j))
      refine ⟨v, M', N', ?_, ?_, Fr_wk g3 (fun c' h => by simp only [List.mem_cons, List.not_mem_nil, or_false] at h ⊢; omega), Fr_wk g4 (fun c' h => by simp only [List.mem_cons, List.not_mem_nil, or_false] at h ⊢; omega)⟩
      · unfold F_Asker_longest
        rw [if_neg (show ¬ nI 2 = nI 0 by decide), if_neg (show ¬ nI 2 = nI 1 by decide), if_pos rfl, g1, ob2_ok, ob2_ok]
      · unfold F_Mod_longest
        rw [if_neg (show ¬ nI 2 = nI 0 by decide), if_neg (show ¬ nI 2 = nI 1 by decide), g2, ob2_ok, ob2_ok, ob2_ok, ob2_ok]
  · have hk : ∀ k, k ≤ 2 → ¬ what = nI k := fun k h e => hw (by rw [e]; exact rg_k (by omega) (Nat.zero_le _) h)
    rw [if_pos hw, if_neg (hk 0 (by omega)), if_neg (hk 1 (by omega)), if_neg (hk 2 (by omega))]
    exact ⟨_, M, N, rfl, rfl, Fr_rf _ _, Fr_rf _ _⟩
end S68
