/-! ===== what hangs together: the whole of it ===== -/
section S76
variable {z : Nat} {M N : mM} {p : Nat → Nat} {W : Wd} {c : Nat} {g : Nat → Nat}
def inP (W : Wd) (g : Nat → Nat) (i x : Nat) : Bool := (wAt W (nI x)).isSome && decide (g x = i)
def sz (W : Wd) (g : Nat → Nat) (i : Nat) : Nat := cnt (inP W g i) 60 0 0
def bef (W : Wd) (g : Nat → Nat) (i x : Nat) : Bool := (wAt W (nI x)).isSome && decide (g x < i)
theorem inP_iff {i x : Nat} : inP W g i x = true ↔ Tk W x ∧ g x = i := by
  unfold inP Tk
  rw [Bool.and_eq_true, decide_eq_true_eq]
theorem bef_iff {i x : Nat} : bef W g i x = true ↔ Tk W x ∧ g x < i := by
  unfold bef Tk
  rw [Bool.and_eq_true, decide_eq_true_eq]
theorem sz_60 (i : Nat) : sz W g i ≤ 60 := by
  have := cnt_le (f := inP W g i) 60 0 0
  unfold sz
  omega
theorem l_partOf (hS : SM N W g) {i : Nat} (hi : i < 60) (hK : MK W g) : ∀ (m k n a : Nat), k + m = 60 → m < n → L_Mod_partOf_1 z (nI i) N n (nI a) (nI k) = some (nI (cnt (inP W g i) m k a)) := by
  intro m
  induction m with
  | zero =>
    intro k n a hk hn
    obtain ⟨n, rfl⟩ : ∃ k, n = k + 1 := ⟨n - 1, by omega⟩
    rw [L_Mod_partOf_1, if_neg (lF (by omega) (by omega))]
    rfl
  | succ m ih =>
    intro k n a hk hn
    obtain ⟨n, rfl⟩ : ∃ k, n = k + 1 := ⟨n - 1, by omega⟩
    have hk60 : k < 60 := by omega
    have e : decide (N 332 k = nI i) = inP W g i k := by
      by_cases hT : Tk W k
      · have hg := (hK k hk60 hT).1
        have ed : decide (nI (g k) = nI i) = decide (g k = i) := decide_eq_decide.mpr (nI_inj (by omega) (by omega))
        rw [(hS k hk60).1 hT, ed]
        unfold inP
        rw [show (wAt W (nI k)).isSome = true from hT, Bool.true_and]
      · have hF : (wAt W (nI k)).isSome = false := by
          cases h : (wAt W (nI k)).isSome with
          | true => exact absurd h hT
          | false => rfl
        unfold inP
        rw [(hS k hk60).2 hT, hF, Bool.false_and, decide_eq_false (fun h => mF (a := i) (by omega) h.symm)]
    rw [L_Mod_partOf_1, if_pos (lT (by omega) (by omega)), ra_ok hk60 (by omega), ob1_ok, ob1_ok, e, cnt, nadd]
    cases h : inP W g i k with
    | true =>
      rw [if_pos rfl, ob1_ok, nadd, ih (k + 1) n (a + 1) (by omega) (by omega)]
      rfl
    | false =>
      rw [if_neg Bool.false_ne_true, ob1_ok, nadd, ih (k + 1) n a (by omega) (by omega)]
      rfl
theorem mm_partOf (hz : 100 ≤ z) (hS : SM N W g) (hK : MK W g) {i : Nat} (hi : i < 60) : F_Mod_partOf z (nI i) N = some (nI (sz W g i)) := by
  unfold F_Mod_partOf
  rw [show nI 0 = nI 0 from rfl, l_partOf hS hi hK 60 0 z 0 (by omega) (by omega), ob1_ok]
  rfl
theorem l_heaps (hz : 100 ≤ z) (hf : wf c W) (hc : c < 2147483648) (hS : SM N W g) (hK : MK W g) (hX : FX W g) : ∀ (m k n n' : Nat) (pa gr le be : Int32) (M : mM), k + m = 60 → m < n → m < n' → CW false 1 M p W → (∀ x, x < 60 → M 137 x = b2 (bef W g k x)) →
    (be = -1 ∧ gr = nI 0 ∧ le = -1) ∨ (∃ b, b < 60 ∧ be = nI b ∧ gr = nI (sz W g b) ∧ le = nI b) →
    ∃ pa' gr' le' be' M', L_Asker_heap_1 z 1 n pa gr le (nI k) M = some (pa', gr', le', M') ∧ L_Mod_heaps_1 z N n' pa be (nI k) = some (pa', be') ∧ Fr [136, 137, 138] M M' ∧
      ((be' = -1 ∧ gr' = nI 0 ∧ le' = -1) ∨ (∃ b, b < 60 ∧ be' = nI b ∧ gr' = nI (sz W g b) ∧ le' = nI b)) := by
  intro m
  induction m with
  | zero =>
    intro k n n' pa gr le be M hk hn hn' hC hE hI
    obtain ⟨n, rfl⟩ : ∃ k, n = k + 1 := ⟨n - 1, by omega⟩
    obtain ⟨n', rfl⟩ : ∃ k, n' = k + 1 := ⟨n' - 1, by omega⟩
    rw [L_Asker_heap_1, L_Mod_heaps_1, if_neg (lF (by omega) (by omega)), if_neg (lF (by omega) (by omega))]
    exact ⟨_, _, _, _, M, rfl, rfl, Fr_rf _ _, hI⟩
  | succ m ih =>
    intro k n n' pa gr le be M hk hn hn' hC hE hI
    obtain ⟨n, rfl⟩ : ∃ k, n = k + 1 := ⟨n - 1, by omega⟩
    obtain ⟨n', rfl⟩ : ∃ k, n' = k + 1 := ⟨n' - 1, by omega⟩
    have hk60 : k < 60 := by omega
    obtain ⟨M3, d3⟩ : ∃ M3, M3 = up M 136 6 (nI 0) := ⟨_, rfl⟩
    have f3 : Fr [136, 137, 138] M M3 := by rw [d3]; exact Fr_up (Fr_rf _ _) (by simp)
    have cC : ∀ {M' : mM}, Fr [136, 137, 138] M M' → CW false 1 M' p W := fun hF => CW_congr hC (fun c' h' => hF c' (by unfold inW at h'; simp only [List.mem_cons, List.not_mem_nil, or_false]; omega))
    have hQ0 : BF W g k (bef W g k) M3 (fun _ => false) 0 := by
      refine ⟨fun x hx => ?_, by rw [d3, up_same], by rw [cnt_no], fun k' hk' => absurd hk' (Nat.not_lt_zero k'), fun x _ h => absurd h Bool.false_ne_true⟩
      rw [d3, up_neC _ _ _ _ (by omega), Bool.or_false]
      exact hE x hx
    have hB : ∀ x, x < 60 → bef W g k x = true → g x < k := fun x _ h => (bef_iff.mp h).2
    by_cases hr : Tk W k ∧ g k = k
    · obtain ⟨hT, hgk⟩ := hr
      obtain ⟨M5, Q5, n5, a1, a2, a3, a4, a5, a6, a7⟩ := cw_reach (cC f3) hf hc hB hQ0 (y := nI k) (fun x hx e _ => by
        have := (nI_inj (by omega) (by omega)).mp e
        rw [← this]; exact hgk)
      obtain ⟨M6, Q6, n6, b1, b2', b3, b4, b5⟩ := l_bfs (z := z) (p := p) hf hc hX hB 60 0 z M5 Q5 n5 (by omega) (by omega) (cC (Fr_tr f3 a3)) a2 (Nat.zero_le _) (fun k' hk' => absurd hk' (Nat.not_lt_zero k'))
      have hQk : Q6 k = true := b4 k (a7 k hk60 rfl hT)
      have hQin : ∀ x, x < 60 → (Q6 x = true ↔ Tk W x ∧ g x = k) := fun x hx => by
        constructor
        · intro h
          obtain ⟨h1, h2, -⟩ := b2'.2.2.2.2 x hx h
          exact ⟨h1, h2⟩
        · intro ⟨h1, h2⟩
          have hcn := g_Cn hK hk60 hT hx h1 (hgk.trans h2.symm)
          exact (hcn (fun y => Q6 y = true) hQk (fun a b ha hb _ hTb h hA => b5 a b ha hb h hTb hA))
      have e6 : n6 = sz W g k := by
        rw [b2'.2.2.1]
        refine cnt_cg 60 0 0 (fun x _ hx => ?_)
        have h1 := hQin x (by omega)
        have h2 := inP_iff (W := W) (g := g) (i := k) (x := x)
        cases e : Q6 x with
        | true => exact (h2.mpr (h1.mp e)).symm
        | false =>
          cases e' : inP W g k x with
          | false => rfl
          | true => rw [h1.mpr (h2.mp e')] at e; cases e
      have hsz1 : 1 ≤ sz W g k := by
        have h1 := cnt_strict (f := fun _ => false) (g := inP W g k) (s := k) 60 0 0 (fun _ _ _ h => absurd h Bool.false_ne_true) (Nat.zero_le _) (by omega) rfl (inP_iff.mpr ⟨hT, hgk⟩)
        rw [cnt_no] at h1
        exact h1
      have hsz60 := sz_60 (W := W) (g := g) k
      have hn6 : M6 136 6 = nI (sz W g k) := by rw [b2'.2.1, e6]
      have E6 : ∀ x, x < 60 → M6 137 x = b2 (bef W g (k + 1) x) := fun x hx => by
        rw [b2'.1 x hx]
        congr 1
        have h1 := hQin x hx
        have h2 := bef_iff (W := W) (g := g) (i := k) (x := x)
        have h3 := bef_iff (W := W) (g := g) (i := k + 1) (x := x)
        cases e : bef W g (k + 1) x with
        | true =>
          obtain ⟨g1, g2⟩ := h3.mp e
          rw [Bool.or_eq_true]
          by_cases e1 : g x = k
          · exact Or.inr (h1.mpr ⟨g1, e1⟩)
          · exact Or.inl (h2.mpr ⟨g1, by omega⟩)
        | false =>
          rw [Bool.or_eq_false_iff]
          constructor
          · cases e1 : bef W g k x with
            | false => rfl
            | true =>
              obtain ⟨g1, g2⟩ := h2.mp e1
              rw [h3.mpr ⟨g1, by omega⟩] at e
              cases e
          · cases e1 : Q6 x with
            | false => rfl
            | true =>
              obtain ⟨g1, g2⟩ := h1.mp e1
              rw [h3.mpr ⟨g1, by omega⟩] at e
              cases e
      have hF6 := Fr_tr f3 (Fr_tr a3 b3)
      have ek : N 332 k = nI k := by rw [(hS k hk60).1 hT, hgk]
      rw [L_Asker_heap_1, L_Mod_heaps_1, if_pos (lT (by omega) (by omega)), if_pos (lT (by omega) (by omega)), ob1_ok, ← d3, a1, ob1_ok, b1, ob1_ok, hn6, if_pos (lT (show 0 < sz W g k by omega) (by omega)), ob1_ok, ra_ok hk60 (by omega), ob1_ok, ek, decide_eq_false (fun h => h rfl), ob1_ok, if_neg Bool.false_ne_true, nadd]
      rcases hI with ⟨i1, i2, i3⟩ | ⟨b, i0, i1, i2, i3⟩
      · rw [i1, i2, i3, if_pos (lT (show 0 < sz W g k by omega) (by omega)), ob2_ok, if_pos rfl, ob1_ok, if_pos rfl, ob1_ok]
        obtain ⟨pa', gr', le', be', M', r1, r2, r3, r4⟩ := ih (k + 1) n n' (pa + nI 1) (nI (sz W g k)) (nI k) (nI k) M6 (by omega) (by omega) (by omega) (cC hF6) E6 (Or.inr ⟨k, hk60, rfl, rfl, rfl⟩)
        exact ⟨pa', gr', le', be', M', r1, r2, Fr_tr hF6 r3, r4⟩
      · have hszb := sz_60 (W := W) (g := g) b
        rw [i1, i2, i3, if_neg (mF (by omega)), mm_partOf hz hS hK hk60, ob1_ok, mm_partOf hz hS hK i0, ob1_ok, ob1_ok]
        by_cases hlt : sz W g b < sz W g k
        · rw [if_pos (lT hlt (by omega)), ob2_ok, decide_eq_true (lT hlt (by omega)), if_pos rfl, ob1_ok]
          obtain ⟨pa', gr', le', be', M', r1, r2, r3, r4⟩ := ih (k + 1) n n' (pa + nI 1) (nI (sz W g k)) (nI k) (nI k) M6 (by omega) (by omega) (by omega) (cC hF6) E6 (Or.inr ⟨k, hk60, rfl, rfl, rfl⟩)
          exact ⟨pa', gr', le', be', M', r1, r2, Fr_tr hF6 r3, r4⟩
        · rw [if_neg (lF (by omega) (by omega)), ob2_ok, decide_eq_false (lF (by omega) (by omega)), if_neg Bool.false_ne_true, ob1_ok]
          obtain ⟨pa', gr', le', be', M', r1, r2, r3, r4⟩ := ih (k + 1) n n' (pa + nI 1) (nI (sz W g b)) (nI b) (nI b) M6 (by omega) (by omega) (by omega) (cC hF6) E6 (Or.inr ⟨b, i0, rfl, rfl, rfl⟩)
          exact ⟨pa', gr', le', be', M', r1, r2, Fr_tr hF6 r3, r4⟩
    · have hreach : F_Asker_reach 1 (nI k) M3 = some M3 := by
        unfold F_Asker_reach
        rw [cw_isTaken (cC f3) hf hc (nI k), ob1_ok, ob1_ok]
        by_cases hT : (wAt W (nI k)).isSome = true
        · have hgk := (hK k hk60 hT).1
          have hne : g k ≠ k := fun e => hr ⟨hT, e⟩
          have hbk : bef W g k k = true := bef_iff.mpr ⟨hT, by omega⟩
          rw [if_pos hT, ra_ok hk60 (by omega), ob1_ok, ob1_ok, hQ0.1 k hk60, hbk, Bool.true_or, show decide (b2 true = nI 0) = false from decide_eq_false (show ¬ nI 1 = nI 0 by decide), if_neg Bool.false_ne_true, ob1_ok, if_neg Bool.false_ne_true]
        · rw [if_neg hT, ob1_ok, if_neg Bool.false_ne_true, ob1_ok, if_neg Bool.false_ne_true]
      have hloop : L_Asker_heap_2 z 1 z (nI 0) M3 = some M3 := by
        obtain ⟨z', rfl⟩ : ∃ k, z = k + 1 := ⟨z - 1, by omega⟩
        rw [L_Asker_heap_2, hQ0.2.1, if_neg (fun h => lF (Nat.le_refl 0) (by omega) h.1)]
      have hnk : ¬ N 332 k = nI k := by
        by_cases hT : Tk W k
        · have hgk := (hK k hk60 hT).1
          rw [(hS k hk60).1 hT]
          exact eF (fun e => hr ⟨hT, e⟩) (by omega) (by omega)
        · rw [(hS k hk60).2 hT]
          exact fun h => mF (a := k) (by omega) h.symm
      have hgr : ¬ gr < nI 0 := by
        rcases hI with ⟨-, i2, -⟩ | ⟨b, -, -, i2, -⟩
        · rw [i2]
          exact lF (Nat.le_refl 0) (by omega)
        · rw [i2]
          have := sz_60 (W := W) (g := g) b
          exact lF (Nat.zero_le _) (by omega)
      have E3 : ∀ x, x < 60 → M3 137 x = b2 (bef W g (k + 1) x) := fun x hx => by
        rw [hQ0.1 x hx, Bool.or_false]
        congr 1
        have h2 := bef_iff (W := W) (g := g) (i := k) (x := x)
        have h3 := bef_iff (W := W) (g := g) (i := k + 1) (x := x)
        cases e : bef W g (k + 1) x with
        | true =>
          obtain ⟨g1, g2⟩ := h3.mp e
          by_cases e1 : g x = k
          · exfalso
            have t1 := (hK x hx g1).2.1
            have t2 := g_root hK hX hx g1
            rw [e1] at t1 t2
            exact hr ⟨t1, t2⟩
          · exact h2.mpr ⟨g1, by omega⟩
        | false =>
          cases e1 : bef W g k x with
          | false => rfl
          | true =>
            obtain ⟨g1, g2⟩ := h2.mp e1
            rw [h3.mpr ⟨g1, by omega⟩] at e
            cases e
      rw [L_Asker_heap_1, L_Mod_heaps_1, if_pos (lT (by omega) (by omega)), if_pos (lT (by omega) (by omega)), ob1_ok, ← d3, hreach, ob1_ok, hloop, ob1_ok, hQ0.2.1, if_neg (lF (Nat.le_refl 0) (by omega)), ob1_ok, if_neg hgr, ob2_ok, ra_ok hk60 (by omega), ob1_ok, decide_eq_true hnk, ob1_ok, if_pos rfl, nadd, show pa + nI 0 = pa from Int32.add_zero pa]
      obtain ⟨pa', gr', le', be', M', r1, r2, r3, r4⟩ := ih (k + 1) n n' pa gr le be M3 (by omega) (by omega) (by omega) (cC f3) E3 hI
      exact ⟨pa', gr', le', be', M', r1, r2, Fr_tr f3 r3, r4⟩
theorem b_heaps (hz : 4000 ≤ z) (hf : wf c W) (hc : c < 2147483648) (hC : CW false 1 M p W) (hR : RM N W) (what : Int32) : ∃ v M' N', F_Rec_heaps z what M = some (v, M') ∧ F_Mod_heaps z what N = some (v, N') ∧ Fr [136, 137, 138] M M' ∧ Fr [332] N N' := by
  unfold F_Rec_heaps F_Mod_heaps
  rw [isIn_eq]
  by_cases hw : F_Rec_within what (nI 0) (nI 2) = true
  · obtain ⟨N', g, a1, a2, a3, a4, a5⟩ := mm_parts hz hf hR
    obtain ⟨M1, d1⟩ : ∃ M1, M1 = fil M 137 0 60 (fun _ => nI 0) := ⟨_, rfl⟩
    have f1 : Fr [136, 137, 138] M M1 := by rw [d1]; exact Fr_upR (Fr_rf _ _) (by simp)
    obtain ⟨pa', gr', le', be', M', r1, r2, r3, r4⟩ := l_heaps (z := z) (p := p) (by omega) hf hc a2 a3 a4 60 0 z z (nI 0) (nI 0) (-1) (-1) M1 (by omega) (by omega) (by omega) (CW_congr hC (fun c' h' => f1 c' (by unfold inW at h'; simp only [List.mem_cons, List.not_mem_nil, or_false]; omega))) (fun x hx => by
      rw [d1, fil_at, if_pos ⟨Nat.zero_le _, hx⟩]
      unfold bef
      rw [decide_eq_false (Nat.not_lt_zero _), Bool.and_false]
      rfl) (Or.inl ⟨rfl, rfl, rfl⟩)
    unfold F_Asker_heap
    rw [if_pos hw, if_neg (show ¬ ¬ F_Rec_within what (nI 0) (nI 2) = true from fun h => h hw), fill_ok (by omega) (by omega), ob1_ok, ← d1, r1, ob4_ok, ob2_ok, ob2_ok, a1, ob1_ok, r2, ob2_ok]
    obtain ⟨K, -, hK, rfl⟩ := rng_n (by omega) (by omega) (of_decide_eq_true hw)
    have hcases : K = 0 ∨ K = 1 ∨ K = 2 := by omega
    rcases hcases with rfl | rfl | rfl
    · rw [if_pos rfl, if_pos rfl, ob1_ok]
      exact ⟨_, M', N', rfl, rfl, Fr_tr f1 r3, a5⟩
    · rw [if_neg (show ¬ nI 1 = nI 0 by decide), if_neg (show ¬ nI 1 = nI 0 by decide), if_pos rfl, if_neg (show ¬ nI 1 = nI 2 by decide)]
      rcases r4 with ⟨i1, i2, i3⟩ | ⟨b, i0, i1, i2, i3⟩
      · rw [i1, if_pos rfl, ob1_ok, ob1_ok, ob1_ok, i2]
        exact ⟨_, M', N', rfl, rfl, Fr_tr f1 r3, a5⟩
      · rw [i1, if_neg (mF (by omega)), mm_partOf (by omega) a2 a3 i0, ob1_ok, ob1_ok, ob1_ok, ob1_ok, i2]
        exact ⟨_, M', N', rfl, rfl, Fr_tr f1 r3, a5⟩
    · rw [if_neg (show ¬ nI 2 = nI 0 by decide), if_neg (show ¬ nI 2 = nI 0 by decide), if_neg (show ¬ nI 2 = nI 1 by decide), if_pos rfl, ob1_ok, ob1_ok]
      rcases r4 with ⟨i1, i2, i3⟩ | ⟨b, i0, i1, i2, i3⟩
      · rw [i1, i3]
        exact ⟨_, M', N', rfl, rfl, Fr_tr f1 r3, a5⟩
      · rw [i1, i3]
        exact ⟨_, M', N', rfl, rfl, Fr_tr f1 r3, a5⟩
  · rw [if_neg hw, if_pos hw, ob2_ok]
    exact ⟨_, M, N, rfl, rfl, Fr_rf _ _, Fr_rf _ _⟩
end S76
