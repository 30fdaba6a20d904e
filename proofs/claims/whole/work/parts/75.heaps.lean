/-! ===== what hangs together: the class's way ===== -/
theorem cnt_set {f : Nat → Bool} {s : Nat} : ∀ (m t a : Nat), t ≤ s → s < t + m → f s = false → cnt (fun y => if y = s then true else f y) m t a = cnt f m t a + 1 := by
  intro m
  induction m with
  | zero => intro t a h1 h2; omega
  | succ m ih =>
    intro t a h1 h2 hf
    rw [cnt, cnt]
    by_cases e : t = s
    · subst e
      have same : ∀ (m t' b : Nat), t < t' → cnt (fun y => if y = t then true else f y) m t' b = cnt f m t' b := by
        intro m
        induction m with
        | zero => intro t' b _; rfl
        | succ m ih' =>
          intro t' b h
          rw [cnt, cnt, if_neg (show ¬ t' = t by omega), ih' (t' + 1) _ (by omega)]
      rw [if_pos rfl, hf, same m (t + 1) _ (by omega), show a + true.toNat = a + false.toNat + 1 from rfl, cnt_add]
    · rw [if_neg e, ih (t + 1) _ (by omega) (by omega) hf]
theorem cnt_cg {f g : Nat → Bool} : ∀ (m t a : Nat), (∀ i, t ≤ i → i < t + m → f i = g i) → cnt f m t a = cnt g m t a := by
  intro m
  induction m with
  | zero => intro t a _; rfl
  | succ m ih =>
    intro t a h
    rw [cnt, cnt, h t (by omega) (by omega), ih (t + 1) _ (fun i h1 h2 => h i (by omega) (by omega))]
section S75
variable {z : Nat} {M N : mM} {p : Nat → Nat} {W : Wd} {c i : Nat} {g : Nat → Nat} {B : Nat → Bool}
/-- the queue of the part whose least inch is i; B: seen ahead of it -/
def BF (W : Wd) (g : Nat → Nat) (i : Nat) (B : Nat → Bool) (M : mM) (Q : Nat → Bool) (n : Nat) : Prop :=
  (∀ x, x < 60 → M 137 x = b2 (B x || Q x)) ∧ M 136 6 = nI n ∧ n = cnt Q 60 0 0 ∧ (∀ k, k < n → ∃ x, x < 60 ∧ M 138 k = nI x ∧ Q x = true) ∧ ∀ x, x < 60 → Q x = true → Tk W x ∧ g x = i ∧ ∃ k, k < n ∧ M 138 k = nI x
theorem cw_reach (hC : CW false 1 M p W) (hf : wf c W) (hc : c < 2147483648) {Q : Nat → Bool} {n : Nat} (hB : ∀ x, x < 60 → B x = true → g x < i) (hQ : BF W g i B M Q n) {y : Int32} (hy : ∀ x, x < 60 → y = nI x → Tk W x → g x = i) :
    ∃ M' Q' n', F_Asker_reach 1 y M = some M' ∧ BF W g i B M' Q' n' ∧ Fr [136, 137, 138] M M' ∧ (∀ x, Q x = true → Q' x = true) ∧ n ≤ n' ∧ (∀ k, k < n → M' 138 k = M 138 k) ∧ ∀ x, x < 60 → y = nI x → Tk W x → Q' x = true := by
  obtain ⟨q1, q2, q3, q4, q5⟩ := id hQ
  have hn60 : n ≤ 60 := by
    have := cnt_le (f := Q) 60 0 0
    omega
  unfold F_Asker_reach
  rw [cw_isTaken hC hf hc y, ob1_ok, ob1_ok]
  by_cases hT : (wAt W y).isSome = true
  · rcases inch_c y with ⟨x, hx, rfl⟩ | hx
    · have gx := hy x hx rfl hT
      have hBx : B x = false := by
        cases e : B x with
        | false => rfl
        | true =>
          have := hB x hx e
          omega
      rw [if_pos hT, ra_ok hx (by omega), ob1_ok, ob1_ok, q1 x hx, hBx, Bool.false_or]
      cases hQx : Q x with
      | true =>
        rw [show decide (b2 true = nI 0) = false from decide_eq_false (show ¬ nI 1 = nI 0 by decide), if_neg Bool.false_ne_true, ob1_ok, if_neg Bool.false_ne_true]
        refine ⟨M, Q, n, rfl, hQ, Fr_rf _ _, fun _ h => h, Nat.le_refl _, fun _ _ => rfl, fun x' hx' e _ => ?_⟩
        rw [← (nI_inj (by omega) (by omega)).mp e]
        exact hQx
      | false =>
        have hlt : n < 60 := by
          have h1 := cnt_strict (f := Q) (g := fun _ => true) (s := x) 60 0 0 (fun _ _ _ _ => rfl) (Nat.zero_le _) (by omega) hQx rfl
          have h2 := cnt_le (f := fun _ => true) 60 0 0
          omega
        rw [show decide (b2 false = nI 0) = true from decide_eq_true rfl, if_pos rfl, q2, ob1_ok, decide_eq_true (lT hlt (by omega)), if_pos rfl, wa_ok hx (by omega), ob1_ok, up_neC _ _ _ _ (by omega), q2, wa_ok hlt (by omega), ob1_ok, up_neC _ _ _ _ (by omega), up_neC _ _ _ _ (by omega), q2, nadd, ob1_ok]
        refine ⟨_, fun y => if y = x then true else Q y, n + 1, rfl, ⟨fun x' hx' => ?_, up_same _ _ _ _, ?_, fun k hk => ?_, fun x' hx' h => ?_⟩, ?_, fun x' h => ?_, by omega, fun k hk => ?_, fun x' hx' e _ => ?_⟩
        · rw [up_neC _ _ _ _ (by omega), up_neC _ _ _ _ (by omega)]
          show _ = b2 (B x' || if x' = x then true else Q x')
          by_cases e : x' = x
          · rw [e, up_same, if_pos rfl, Bool.or_true]
            rfl
          · rw [up_neJ _ _ _ e, if_neg e]
            exact q1 x' hx'
        · rw [cnt_set 60 0 0 (Nat.zero_le _) (by omega) hQx, q3]
        · rw [up_neC _ _ _ _ (by omega)]
          by_cases e : k = n
          · exact ⟨x, hx, by rw [e, up_same], if_pos rfl⟩
          · obtain ⟨x', h1, h2, h3⟩ := q4 k (by omega)
            refine ⟨x', h1, by rw [up_neJ _ _ _ e, up_neC _ _ _ _ (by omega)]; exact h2, ?_⟩
            show (if x' = x then true else Q x') = true
            split
            · rfl
            · exact h3
        · by_cases e : x' = x
          · subst e
            exact ⟨hT, gx, n, by omega, by rw [up_neC _ _ _ _ (by omega), up_same]⟩
          · have h' : Q x' = true := by
              have h0 : (if x' = x then true else Q x') = true := h
              rwa [if_neg e] at h0
            obtain ⟨h1, h2, k, h3, h4⟩ := q5 x' hx' h'
            exact ⟨h1, h2, k, by omega, by rw [up_neC _ _ _ _ (by omega), up_neJ _ _ _ (by omega), up_neC _ _ _ _ (by omega)]; exact h4⟩
        · exact Fr_up (Fr_up (Fr_up (Fr_rf _ _) (by simp)) (by simp)) (by simp)
        · show (if x' = x then true else Q x') = true
          split
          · rfl
          · exact h
        · rw [up_neC _ _ _ _ (by omega), up_neJ _ _ _ (by omega), up_neC _ _ _ _ (by omega)]
        · have : x' = x := ((nI_inj (by omega) (by omega)).mp e).symm
          exact if_pos this
    · rw [wAt_out hf hx] at hT
      exact absurd hT Bool.false_ne_true
  · rw [if_neg hT, ob1_ok, if_neg Bool.false_ne_true, ob1_ok, if_neg Bool.false_ne_true]
    refine ⟨M, Q, n, rfl, hQ, Fr_rf _ _, fun _ h => h, Nat.le_refl _, fun _ _ => rfl, fun x' _ e h => ?_⟩
    rw [e] at hT
    exact absurd h hT
theorem l_bfs (hf : wf c W) (hc : c < 2147483648) (hX : FX W g) (hB : ∀ x, x < 60 → B x = true → g x < i) : ∀ (m h n : Nat) (M : mM) (Q : Nat → Bool) (q : Nat), h + m = 60 → m < n → CW false 1 M p W → BF W g i B M Q q → h ≤ q → (∀ k, k < h → ∀ x j, x < 60 → j < 60 → M 138 k = nI x → Tk W j → Adj x j → Q j = true) →
    ∃ M' Q' q', L_Asker_heap_2 z 1 n (nI h) M = some M' ∧ BF W g i B M' Q' q' ∧ Fr [136, 137, 138] M M' ∧ (∀ x, Q x = true → Q' x = true) ∧ ∀ x j, x < 60 → j < 60 → Q' x = true → Tk W j → Adj x j → Q' j = true := by
  have fin : ∀ (h : Nat) (M : mM) (Q : Nat → Bool) (q : Nat), BF W g i B M Q q → q ≤ h → (∀ k, k < h → ∀ x j, x < 60 → j < 60 → M 138 k = nI x → Tk W j → Adj x j → Q j = true) → ∀ x j, x < 60 → j < 60 → Q x = true → Tk W j → Adj x j → Q j = true := fun h M Q q hQ hq hcl x j hx hj hQx hT hA => by
    obtain ⟨-, -, k, h1, h2⟩ := hQ.2.2.2.2 x hx hQx
    exact hcl k (by omega) x j hx hj h2 hT hA
  intro m
  induction m with
  | zero =>
    intro h n M Q q hh hn hC hQ hq hcl
    obtain ⟨n, rfl⟩ : ∃ k, n = k + 1 := ⟨n - 1, by omega⟩
    have hq60 : q ≤ 60 := by
      have := cnt_le (f := Q) 60 0 0
      have := hQ.2.2.1
      omega
    rw [L_Asker_heap_2, if_neg (fun h' => lF (by omega) (by omega) h'.2)]
    exact ⟨M, Q, q, rfl, hQ, Fr_rf _ _, fun _ h => h, fin h M Q q hQ (by omega) hcl⟩
  | succ m ih =>
    intro h n M Q q hh hn hC hQ hq hcl
    obtain ⟨n, rfl⟩ : ∃ k, n = k + 1 := ⟨n - 1, by omega⟩
    have hq60 : q ≤ 60 := by
      have := cnt_le (f := Q) 60 0 0
      have := hQ.2.2.1
      omega
    by_cases hlt : h < q
    · obtain ⟨x, hx, ex, hQx⟩ := hQ.2.2.2.1 h hlt
      obtain ⟨hTx, gx, -⟩ := hQ.2.2.2.2 x hx hQx
      have hnb : ∀ j, j < 60 → Tk W j → Adj x j → g j = i := fun j hj hT hA => by
        have h1 := hX x j hx hj hTx hT hA
        have h2 := hX j x hj hx hT hTx (Adj_sy hA)
        omega
      have cC : ∀ {M' : mM}, Fr [136, 137, 138] M M' → CW false 1 M' p W := fun hF => CW_congr hC (fun c' h' => hF c' (by unfold inW at h'; simp only [List.mem_cons, List.not_mem_nil, or_false]; omega))
      obtain ⟨M1, Q1, n1, a1, a2, a3, a4, a5, a6, a7⟩ := cw_reach hC hf hc hB hQ (y := nI x - nI 1) (fun j hj e hT => hnb j hj hT (by
        have h1 := eq_sub.mp e.symm
        rw [nadd] at h1
        have h2 := (nI_inj (by omega) (by omega)).mp h1
        unfold Adj; omega))
      obtain ⟨M2, Q2, n2, b1, b2', b3, b4, b5, b6, b7⟩ := cw_reach (cC a3) hf hc hB a2 (y := nI x + nI 1) (fun j hj e hT => hnb j hj hT (by
        rw [nadd] at e
        have h2 := (nI_inj (by omega) (by omega)).mp e
        unfold Adj; omega))
      obtain ⟨M3, Q3, n3, c1, c2, c3, c4, c5, c6, c7⟩ := cw_reach (cC (Fr_tr a3 b3)) hf hc hB b2' (y := nI x - nI 10) (fun j hj e hT => hnb j hj hT (by
        have h1 := eq_sub.mp e.symm
        rw [nadd] at h1
        have h2 := (nI_inj (by omega) (by omega)).mp h1
        unfold Adj; omega))
      obtain ⟨M4, Q4, n4, d1, d2, d3, d4, d5, d6, d7⟩ := cw_reach (cC (Fr_tr a3 (Fr_tr b3 c3))) hf hc hB c2 (y := nI x + nI 10) (fun j hj e hT => hnb j hj hT (by
        rw [nadd] at e
        have h2 := (nI_inj (by omega) (by omega)).mp e
        unfold Adj; omega))
      have hF4 := Fr_tr a3 (Fr_tr b3 (Fr_tr c3 d3))
      have hup : ∀ x, Q x = true → Q4 x = true := fun x h => d4 x (c4 x (b4 x (a4 x h)))
      have hpre : ∀ k, k < q → M4 138 k = M 138 k := fun k hk => by rw [d6 k (by omega), c6 k (by omega), b6 k (by omega), a6 k hk]
      obtain ⟨M', Q', q', g1, g2, g3, g4, g5⟩ := ih (h + 1) n M4 Q4 n4 (by omega) (by omega) (cC hF4) d2 (by omega) (fun k hk x' j hx' hj e hT hA => by
        rw [hpre k (by omega)] at e
        by_cases ek : k = h
        · subst ek
          have ee : x' = x := (nI_inj (by omega) (by omega)).mp (e.symm.trans ex)
          subst ee
          unfold Adj at hA
          rcases hA with h1 | h1 | h1 | h1
          · exact d4 j (c4 j (b7 j hj (by rw [nadd, h1]) hT))
          · exact d4 j (c4 j (b4 j (a7 j hj (by rw [nsb (by omega)]; congr 1; omega) hT)))
          · exact d7 j hj (by rw [nadd, h1]) hT
          · exact d4 j (c7 j hj (by rw [nsb (by omega)]; congr 1; omega) hT)
        · exact hup j (hcl k (by omega) x' j hx' hj e hT hA))
      refine ⟨M', Q', q', ?_, g2, Fr_tr hF4 g3, fun x h => g4 x (hup x h), g5⟩
      rw [L_Asker_heap_2, hQ.2.1, if_pos ⟨lT hlt (by omega), lT (by omega) (by omega)⟩, ra_ok (by omega) (by omega), ob1_ok, ex, a1, ob1_ok, ra_ok (by omega) (by omega), ob1_ok, a6 h hlt, ex, b1, ob1_ok, ra_ok (by omega) (by omega), ob1_ok, b6 h (by omega), a6 h hlt, ex, c1, ob1_ok, ra_ok (by omega) (by omega), ob1_ok, c6 h (by omega), b6 h (by omega), a6 h hlt, ex, d1, ob1_ok, nadd, g1]
    · rw [L_Asker_heap_2, hQ.2.1, if_neg (fun h' => lF (by omega) (by omega) h'.1)]
      exact ⟨M, Q, q, rfl, hQ, Fr_rf _ _, fun _ h => h, fin h M Q q hQ (by omega) hcl⟩
end S75
