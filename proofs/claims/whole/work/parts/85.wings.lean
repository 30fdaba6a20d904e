/-! ===== the class tries numberings ===== -/
section S85
variable {z : Nat} {M N : mM} {F : Rw} {T : Tx} {a b : Nat → Nat} {g : Nat → Nat}
def okV (V : Nat → Nat → Int32) (n : Nat) : Prop := ∀ j, j < n → bt (V j 0) 0 7 ∧ bt (V j 1) 0 7 ∧ V j 0 ≠ V j 1
theorem vMask_n {V : Nat → Nat → Int32} : ∀ n, okV V n → ∃ A : Nat → Nat, (∀ s, vMask V n s = nI (A s)) ∧ WG A := by
  intro n
  induction n with
  | zero => intro _; exact ⟨fun _ => 0, fun _ => rfl, fun _ _ => show 0 < 256 by omega, fun i j _ _ => by rw [Nat.zero_testBit, Nat.zero_testBit], fun i _ => Nat.zero_testBit i⟩
  | succ n ih =>
    intro h
    obtain ⟨A, hA, w1, w2, w3⟩ := ih (fun j hj => h j (by omega))
    obtain ⟨⟨x, -, hx, ex⟩, ⟨y, -, hy, ey⟩, hne⟩ := h n (by omega)
    have hxy : x ≠ y := fun e => hne (by rw [ex, ey, e])
    obtain ⟨A', hA'⟩ : ∃ A' : Nat → Nat, A' = fun s => if s = y then A y ||| 2 ^ x else if s = x then A x ||| 2 ^ y else A s := ⟨_, rfl⟩
    have e : ∀ s, A' s = if s = y then A y ||| 2 ^ x else if s = x then A x ||| 2 ^ y else A s := fun s => by rw [hA']
    have p8 : ∀ k, k ≤ 7 → 2 ^ k < 2 ^ 8 := fun k hk => Nat.pow_lt_pow_right (by omega) (by omega)
    have bits : ∀ s k, (A' s).testBit k = ((A s).testBit k || (decide (s = y ∧ k = x) || decide (s = x ∧ k = y))) := fun s k => by
      rw [e s]
      by_cases e1 : s = y
      · subst e1
        rw [if_pos rfl, Nat.testBit_or, decide_eq_false (fun h : s = x ∧ k = s => hxy h.1.symm), Bool.or_false]
        congr 1
        by_cases e2 : k = x
        · rw [e2, Nat.testBit_two_pow_self, decide_eq_true ⟨rfl, rfl⟩]
        · rw [Nat.testBit_two_pow_of_ne (fun h => e2 h.symm), decide_eq_false (fun h => e2 h.2)]
      · rw [if_neg e1, decide_eq_false (fun h : s = y ∧ k = x => e1 h.1), Bool.false_or]
        by_cases e2 : s = x
        · subst e2
          rw [if_pos rfl, Nat.testBit_or]
          congr 1
          by_cases e3 : k = y
          · rw [e3, Nat.testBit_two_pow_self, decide_eq_true ⟨rfl, rfl⟩]
          · rw [Nat.testBit_two_pow_of_ne (fun h => e3 h.symm), decide_eq_false (fun h => e3 h.2)]
        · rw [if_neg e2, decide_eq_false (fun h : s = x ∧ k = y => e2 h.1), Bool.or_false]
    refine ⟨A', fun s => ?_, fun i hi => ?_, fun i j hi hj => ?_, fun i hi => ?_⟩
    · rw [vMask, ex, ey, nI_clamp (by omega), nI_clamp (by omega), shl_n x (by omega), shl_n y (by omega), e s, upd_ne _ (j := y) (k := x) _ (fun h => hxy h.symm)]
      by_cases e1 : s = y
      · rw [e1, upd_same, if_pos rfl, hA, or_n]
      · rw [upd_ne _ _ e1, if_neg e1]
        by_cases e2 : s = x
        · rw [e2, upd_same, if_pos rfl, hA, or_n]
        · rw [upd_ne _ _ e2, if_neg e2, hA]
    · rw [e i]
      split
      · exact Nat.or_lt_two_pow (n := 8) (w1 y (by omega)) (p8 x hx)
      · split
        · exact Nat.or_lt_two_pow (n := 8) (w1 x (by omega)) (p8 y hy)
        · exact w1 i hi
    · rw [bits, bits, w2 i j hi hj]
      congr 1
      rw [Bool.or_comm]
      congr 1
      · exact decide_eq_decide.mpr ⟨fun h => ⟨h.2, h.1⟩, fun h => ⟨h.2, h.1⟩⟩
      · exact decide_eq_decide.mpr ⟨fun h => ⟨h.2, h.1⟩, fun h => ⟨h.2, h.1⟩⟩
    · rw [bits, w3 i hi, decide_eq_false (fun h : i = y ∧ i = x => hxy (h.2.symm.trans h.1)), decide_eq_false (fun h : i = x ∧ i = y => hxy (h.1.symm.trans h.2))]
      rfl
theorem l_vlearn {r cj : Nat} (hr : cj ≠ r ∧ cj ≠ r + 1) (h9 : F.1 ≤ 9) (hb : okV F.2 F.1) : ∀ (m k n : Nat) (M : mM), k + m = F.1 → m < n → RwG r 2 M F → (∀ s, s < 8 → M cj s = vMask F.2 k s) →
    ∃ M', L_Wings_learn_1 z r 2 9 cj 8 n (nI k) M = some M' ∧ Fr [cj] M M' ∧ ∀ s, s < 8 → M' cj s = vMask F.2 F.1 s := by
  intro m
  induction m with
  | zero =>
    intro k n M hk hn hF hE
    obtain ⟨n, rfl⟩ : ∃ k, n = k + 1 := ⟨n - 1, by omega⟩
    have ek : k = F.1 := by omega
    subst ek
    rw [L_Wings_learn_1, hF.1, if_neg (lF (by omega) (by omega))]
    exact ⟨M, rfl, Fr_rf _ _, hE⟩
  | succ m ih =>
    intro k n M hk hn hF hE
    obtain ⟨n, rfl⟩ : ∃ k, n = k + 1 := ⟨n - 1, by omega⟩
    obtain ⟨⟨x, -, hx, ex⟩, ⟨y, -, hy, ey⟩, hne⟩ := hb k (by omega)
    have hxy : x ≠ y := fun e => hne (by rw [ex, ey, e])
    have g0 : F_Rows_get r 2 9 (nI k) (nI 0) M = some (nI x) := by
      rw [get_ok (n := F.1) (k := 0) hF.1 h9 (by omega) (by omega) (by omega) (by omega), ← ex]
      exact congrArg some (hF.2 k 0 (by omega) (by omega))
    have g1 : F_Rows_get r 2 9 (nI k) (nI 1) M = some (nI y) := by
      rw [get_ok (n := F.1) (k := 1) hF.1 h9 (by omega) (by omega) (by omega) (by omega), ← ey]
      exact congrArg some (hF.2 k 1 (by omega) (by omega))
    rw [L_Wings_learn_1, hF.1, if_pos (lT (by omega) (by omega)), g0, ob1_ok, g1, ob1_ok, if_pos ⟨⟨⟨lF (Nat.zero_le _) (by omega), lT (by omega) (by omega)⟩, lF (Nat.zero_le _) (by omega)⟩, lT (by omega) (by omega)⟩, ra_ok (by omega) (by omega), ob1_ok, wa_ok (by omega) (by omega), ob1_ok, ra_ok (by omega) (by omega), ob1_ok, wa_ok (by omega) (by omega), ob1_ok, ob1_ok, nadd]
    obtain ⟨M', b1, b2, b3⟩ := ih (k + 1) n (up (up M cj x (M cj x ||| jshl (nI 1) (nI y))) cj y (up M cj x (M cj x ||| jshl (nI 1) (nI y)) cj y ||| jshl (nI 1) (nI x))) (by omega) (by omega) (by
      unfold RwG
      rw [upC hr.1.symm, upC hr.1.symm, upC hr.2.symm, upC hr.2.symm]
      exact hF) (fun s hs => by
      rw [vMask, ex, ey, nI_clamp (by omega), nI_clamp (by omega)]
      by_cases e : s = y
      · rw [e, up_same, upd_same, up_neJ _ _ _ (fun h => hxy h.symm), upd_ne _ _ (fun h => hxy h.symm), hE y (by omega)]
      · rw [up_neJ _ _ _ e, upd_ne _ _ e]
        by_cases e2 : s = x
        · rw [e2, up_same, upd_same, hE x (by omega)]
        · rw [up_neJ _ _ _ e2, upd_ne _ _ e2]
          exact hE s hs)
    exact ⟨M', b1, Fr_tr (Fr_up (Fr_up (Fr_rf _ _) (by simp)) (by simp)) b2, b3⟩
theorem cw_vlearn (hz : 100 ≤ z) {r cj : Nat} (hr : cj ≠ r ∧ cj ≠ r + 1) (h9 : F.1 ≤ 9) (hb : okV F.2 F.1) (hF : RwG r 2 M F) (hA : ∀ s, vMask F.2 F.1 s = nI (a s)) : ∃ M', F_Wings_learn z r 2 9 cj 8 M = some M' ∧ Fr [cj] M M' ∧ ∀ s, s < 8 → M' cj s = nI (a s) := by
  obtain ⟨M1, a1, a2, a3⟩ := l_vlearn (z := z) hr h9 hb F.1 0 z (fil M cj 0 8 (fun _ => nI 0)) (by omega) (by omega) (by
    unfold RwG
    rw [fil_ne hr.1.symm, fil_ne hr.2.symm]
    exact hF) (fun s hs => by rw [fil_at, if_pos ⟨Nat.zero_le _, hs⟩]; rfl)
  refine ⟨M1, ?_, Fr_tr (Fr_upR (Fr_rf _ _) (by simp)) a2, fun s hs => by rw [a3 s hs, hA s]⟩
  unfold F_Wings_learn
  rw [fill_ok (by omega) (by omega), ob1_ok, a1, ob1_ok]
theorem l_bare {cj : Nat} (hM : ∀ s, s < 8 → M cj s = nI (a s)) (hA : ∀ s, s < 8 → a s < 256) : ∀ (m k n w : Nat), k + m = 8 → m < n → L_Wings_bare_1 z cj 8 (nI 8) M n (nI w) (nI k) = some (nI (cnt (fun i => Nat.beq (a i) 0) m k w)) := by
  intro m
  induction m with
  | zero =>
    intro k n w hk hn
    obtain ⟨n, rfl⟩ : ∃ k, n = k + 1 := ⟨n - 1, by omega⟩
    rw [L_Wings_bare_1, if_neg (lF (by omega) (by omega))]
    rfl
  | succ m ih =>
    intro k n w hk hn
    obtain ⟨n, rfl⟩ : ∃ k, n = k + 1 := ⟨n - 1, by omega⟩
    have hk := hA k (by omega)
    have e : nI w + (if nI (a k) = nI 0 then nI 1 else nI 0) = nI (w + (Nat.beq (a k) 0).toNat) := by
      by_cases h : a k = 0
      · rw [h, if_pos rfl, nadd]
        rfl
      · rw [if_neg (eF h (by omega) (by omega)), nadd]
        cases e : Nat.beq (a k) 0 with
        | true => exact absurd (beq_iff.mp e) h
        | false => rfl
    rw [L_Wings_bare_1, if_pos (lT (by omega) (by omega)), ra_ok (by omega) (by omega), ob1_ok, ob1_ok, hM k (by omega), e, nadd, ih (k + 1) n _ (by omega) (by omega)]
    rfl
theorem cw_bare (hz : 100 ≤ z) {cj : Nat} (hM : ∀ s, s < 8 → M cj s = nI (a s)) (hA : ∀ s, s < 8 → a s < 256) : F_Wings_bare z cj 8 M = some (nI (cnt (fun i => Nat.beq (a i) 0) 8 0 0)) := by
  unfold F_Wings_bare
  rw [show nI 0 = nI 0 from rfl, l_bare hM hA 8 0 z 0 (by omega) (by omega), ob1_ok]
theorem bv_n {x k : Nat} (hx : x < 2147483648) (hk : k < 12) : jshr (nI x) (nI k) &&& nI 1 = nI (x.testBit k).toNat := by
  rw [shr_n hx hk, and_n, Nat.and_one_is_mod]
  congr 1
  have h1 : x >>> k % 2 < 2 := Nat.mod_lt _ (by omega)
  have h2 : x.testBit k = decide (x >>> k % 2 = 1) := by rw [Nat.testBit_eq_decide_div_mod_eq, Nat.shiftRight_eq_div_pow]
  rw [h2]
  by_cases h : x >>> k % 2 = 1
  · rw [decide_eq_true h, h]; rfl
  · rw [decide_eq_false h, show x >>> k % 2 = 0 by omega]; rfl
theorem l_fits (h1 : ∀ s, s < 8 → M 147 s = nI (a s)) (h2 : ∀ s, s < 8 → M 148 s = nI (b s)) (hA : ∀ s, s < 8 → a s < 256) (hB : ∀ s, s < 8 → b s < 256) {p t : Nat} (hp : p < 8) (ht : t < 8) (h3 : ∀ q, q < p → a q ≠ 0 → g q < 8 ∧ M 149 q = nI (g q)) : ∀ (m k n : Nat), k + m = p → m < n → ftR a b g p t k = true → L_Wings_fits_1 z 147 8 148 8 149 8 (nI p) (nI t) M (some true) n (nI k) = some (ftR a b g p t p) := by
  intro m
  induction m with
  | zero =>
    intro k n hk hn h
    obtain ⟨n, rfl⟩ : ∃ k, n = k + 1 := ⟨n - 1, by omega⟩
    have ek : k = p := by omega
    subst ek
    rw [L_Wings_fits_1, if_neg (lF (by omega) (by omega)), h]
  | succ m ih =>
    intro k n hk hn h
    obtain ⟨n, rfl⟩ : ∃ k, n = k + 1 := ⟨n - 1, by omega⟩
    have hak := hA k (by omega)
    have hap := hA p hp
    have hbt := hB t ht
    rw [L_Wings_fits_1, if_pos (lT (by omega) (by omega)), ra_ok (by omega) (by omega), ob1_ok, ob1_ok, h1 k (by omega)]
    by_cases h0 : a k = 0
    · rw [h0, decide_eq_false (fun h => h rfl), if_neg Bool.false_ne_true, ob1_ok, if_neg Bool.false_ne_true, nadd]
      exact ih (k + 1) n (by omega) (by omega) (by rw [ftR, h, beq_iff.mpr h0]; rfl)
    · obtain ⟨hg8, eg⟩ := h3 k (by omega) h0
      have hb01 : ((a p).testBit k).toNat ≤ 1 ∧ ((b t).testBit (g k)).toNat ≤ 1 := ⟨Bool.toNat_le _, Bool.toNat_le _⟩
      rw [decide_eq_true (eF h0 (by omega) (by omega)), if_pos rfl, ra_ok hp (by omega), ob1_ok, ra_ok ht (by omega), ob1_ok, ra_ok (by omega) (by omega), ob1_ok, ob1_ok, h1 p hp, h2 t ht, eg, bv_n (by omega) (by omega), bv_n (by omega) (by omega), nadd]
      by_cases e : (a p).testBit k = (b t).testBit (g k)
      · rw [e, decide_eq_false (fun h => h rfl), if_neg Bool.false_ne_true]
        exact ih (k + 1) n (by omega) (by omega) (by rw [ftR, h, beq_iff_eq.mpr e, Bool.or_true]; rfl)
      · have hne : ((a p).testBit k).toNat ≠ ((b t).testBit (g k)).toNat := fun h => e (by
          cases e1 : (a p).testBit k <;> cases e2 : (b t).testBit (g k) <;> rw [e1, e2] at h <;> first | rfl | cases h)
        rw [decide_eq_true (eF hne (by omega) (by omega)), if_pos rfl]
        cases hf : ftR a b g p t p with
        | false => rfl
        | true => exact absurd (ftR_iff p |>.mp hf k (by omega) h0) e
theorem cw_fits (hz : 100 ≤ z) (h1 : ∀ s, s < 8 → M 147 s = nI (a s)) (h2 : ∀ s, s < 8 → M 148 s = nI (b s)) (hA : ∀ s, s < 8 → a s < 256) (hB : ∀ s, s < 8 → b s < 256) {p t : Nat} (hp : p < 8) (ht : t < 8) (h3 : ∀ q, q < p → a q ≠ 0 → g q < 8 ∧ M 149 q = nI (g q)) : F_Wings_fits z 147 8 148 8 149 8 (nI p) (nI t) M = some (ftB a b g p t) := by
  have hap := hA p hp
  have hbt := hB t ht
  obtain ⟨p1, p2, -⟩ := pc_ok (show a p < 4096 by omega)
  obtain ⟨q1, q2, -⟩ := pc_ok (show b t < 4096 by omega)
  unfold F_Wings_fits ftB
  rw [ra_ok hp (by omega), ob1_ok, bitCount_ok, ob1_ok, ra_ok ht (by omega), ob1_ok, bitCount_ok, ob1_ok, ob1_ok, h1 p hp, h2 t ht, p1, q1]
  by_cases e : pcN (a p) = pcN (b t)
  · rw [e, decide_eq_false (fun h => h rfl), if_neg Bool.false_ne_true, l_fits h1 h2 hA hB hp ht h3 p 0 z (by omega) (by omega) rfl, beq_iff.mpr rfl, Bool.true_and]
  · rw [decide_eq_true (eF e (by omega) (by omega)), if_pos rfl]
    cases e2 : Nat.beq (pcN (a p)) (pcN (b t)) with
    | true => exact absurd (beq_iff.mp e2) e
    | false => rfl
theorem cw_tried (hz : 100 ≤ z) (hA : ∀ s, s < 8 → a s < 256) (hB : ∀ s, s < 8 → b s < 256) : ∀ (m p v y : Nat) (g : Nat → Nat) (M : mM), p + m = 8 → m < y → v < 256 → (∀ s, s < 8 → M 147 s = nI (a s)) → (∀ s, s < 8 → M 148 s = nI (b s)) → (∀ q, q < p → a q ≠ 0 → g q < 8 ∧ M 149 q = nI (g q)) →
    ∃ M', F_Wings_tried z 147 8 148 8 149 8 y (nI p) (nI v) M = some (nI (trS a b m p v g), M') ∧ Fr [149] M M' ∧ ∀ j, j < p → M' 149 j = M 149 j := by
  intro m
  induction m with
  | zero =>
    intro p v y g M hp hy hv h1 h2 h3
    obtain ⟨y, rfl⟩ : ∃ k, y = k + 1 := ⟨y - 1, by omega⟩
    rw [F_Wings_tried, B_Wings_tried, if_pos (lF (by omega) (by omega))]
    exact ⟨M, rfl, Fr_rf _ _, fun _ _ => rfl⟩
  | succ m ih =>
    intro p v y g M hp hy hv h1 h2 h3
    obtain ⟨y, rfl⟩ : ∃ k, y = k + 1 := ⟨y - 1, by omega⟩
    have hp8 : p < 8 := by omega
    have hap := hA p hp8
    rw [F_Wings_tried, B_Wings_tried, if_neg (fun h => h (lT hp8 (by omega))), ra_ok hp8 (by omega), ob1_ok, ob1_ok, h1 p hp8, trS, bcond]
    by_cases h0 : a p = 0
    · obtain ⟨M', g1, g2, g3⟩ := ih (p + 1) v y g M (by omega) (by omega) hv h1 h2 (fun q hq hq0 => h3 q (by
        have : q ≠ p := fun e => hq0 (by rw [e]; exact h0)
        omega) hq0)
      rw [if_pos (beq_iff.mpr h0), h0, decide_eq_true rfl, if_pos rfl, nadd, g1, ob2_ok]
      exact ⟨M', rfl, g2, fun j hj => g3 j (by omega)⟩
    · rw [if_neg (fun h => h0 (beq_iff.mp h)), decide_eq_false (eF h0 (by omega) (by omega)), if_neg Bool.false_ne_true]
      obtain ⟨h, hh⟩ : ∃ h : Nat → Nat, h = fun t => bif !v.testBit t && ftB a b g p t then trS a b m (p + 1) (v ||| 2 ^ t) (updN g p t) else 0 := ⟨_, rfl⟩
      have inner : ∀ (n t f w : Nat) (M1 : mM), t + n = 8 → n < f → Fr [149] M M1 → (∀ j, j < p → M1 149 j = M 149 j) → ∃ M', L_Wings_tried_1 z (F_Wings_tried z 147 8 148 8 149 8 y) 147 8 148 8 149 8 (nI p) (nI v) f (nI w) (nI t) M1 = some (nI (w + sFr h n t), M') ∧ Fr [149] M M' ∧ ∀ j, j < p → M' 149 j = M 149 j := by
        intro n
        induction n with
        | zero =>
          intro t f w M1 ht hf hF hP
          obtain ⟨f, rfl⟩ : ∃ k, f = k + 1 := ⟨f - 1, by omega⟩
          rw [L_Wings_tried_1, if_neg (lF (by omega) (by omega))]
          exact ⟨M1, rfl, hF, hP⟩
        | succ n ihn =>
          intro t f w M1 ht hf hF hP
          obtain ⟨f, rfl⟩ : ∃ k, f = k + 1 := ⟨f - 1, by omega⟩
          have ht8 : t < 8 := by omega
          have m1 : ∀ s, s < 8 → M1 147 s = nI (a s) := fun s hs => by rw [hF 147 (by simp)]; exact h1 s hs
          have m2 : ∀ s, s < 8 → M1 148 s = nI (b s) := fun s hs => by rw [hF 148 (by simp)]; exact h2 s hs
          have m3 : ∀ q, q < p → a q ≠ 0 → g q < 8 ∧ M1 149 q = nI (g q) := fun q hq hq0 => by rw [hP q hq]; exact h3 q hq hq0
          have hft := cw_fits (z := z) hz m1 m2 hA hB hp8 ht8 m3
          have hcond : (if jshr (nI v) (nI t) &&& nI 1 = nI 0 then ob1 (F_Wings_fits z 147 8 148 8 149 8 (nI p) (nI t) M1) fun v44 => some v44 else some false) = some (!v.testBit t && ftB a b g p t) := by
            rw [bv_n (by omega) (by omega), hft]
            cases e : v.testBit t with
            | true => rw [if_neg (show ¬ nI true.toNat = nI 0 by decide)]; rfl
            | false => rw [if_pos (show nI false.toNat = nI 0 from rfl), ob1_ok]; rfl
          have hterm : h t = bif !v.testBit t && ftB a b g p t then trS a b m (p + 1) (v ||| 2 ^ t) (updN g p t) else 0 := by rw [hh]
          rw [L_Wings_tried_1, if_pos (lT ht8 (by omega)), hcond, ob1_ok, sFr, hterm]
          cases e : (!v.testBit t && ftB a b g p t) with
          | true =>
            obtain ⟨M3, g1, g2, g3⟩ := ih (p + 1) (v ||| 2 ^ t) y (updN g p t) (up M1 149 p (nI t)) (by omega) (by omega) (Nat.or_lt_two_pow (n := 8) hv (Nat.pow_lt_pow_right (by omega) ht8)) (fun s hs => by rw [up_neC _ _ _ _ (by omega)]; exact m1 s hs) (fun s hs => by rw [up_neC _ _ _ _ (by omega)]; exact m2 s hs) (fun q hq hq0 => by
              unfold updN
              by_cases e : q = p
              · rw [if_pos e, e, up_same]
                exact ⟨ht8, rfl⟩
              · rw [if_neg e, up_neJ _ _ _ e]
                exact m3 q (by omega) hq0)
            obtain ⟨M', q1, q2, q3⟩ := ihn (t + 1) f (w + trS a b m (p + 1) (v ||| 2 ^ t) (updN g p t)) M3 (by omega) (by omega) (Fr_tr hF (Fr_tr (Fr_up (Fr_rf _ _) (by simp)) g2)) (fun j hj => by rw [g3 j (by omega), up_neJ _ _ _ (by omega), hP j hj])
            refine ⟨M', ?_, q2, q3⟩
            rw [if_pos rfl, wa_ok hp8 (by omega), ob1_ok, nadd, shl_n t (by omega), or_n, g1, ob2_ok, ob2_ok, nadd, nadd, q1, Nat.add_assoc]
            rfl
          | false =>
            obtain ⟨M', q1, q2, q3⟩ := ihn (t + 1) f w M1 (by omega) (by omega) hF hP
            refine ⟨M', ?_, q2, q3⟩
            rw [if_neg Bool.false_ne_true, ob2_ok, nadd, q1]
            show some (nI (w + sFr h n (t + 1)), M') = some (nI (w + (0 + sFr h n (t + 1))), M')
            rw [Nat.zero_add]
      obtain ⟨M', g1, g2, g3⟩ := inner 8 0 z 0 M (by omega) (by omega) (Fr_rf _ _) (fun _ _ => rfl)
      rw [Nat.zero_add] at g1
      have g1' : L_Wings_tried_1 z (F_Wings_tried z 147 8 148 8 149 8 y) 147 8 148 8 149 8 (nI p) (nI v) z (nI 0) (nI 0) M = some (nI (sFr h 8 0), M') := g1
      rw [g1', ob2_ok, hh]
      exact ⟨M', rfl, g2, g3⟩
theorem l_fact {r wd mo r2 wd2 mo2 n : Nat} (hn : n ≤ 8) (w : Nat) : ∀ (m k f : Nat), k + m = n + 1 → 1 ≤ k → m < f → L_Wings_numberings_1 z r wd mo r2 wd2 mo2 (nI n) M f (nI (w * fcN (k - 1))) (nI k) = some (nI (w * fcN n)) := by
  intro m
  induction m with
  | zero =>
    intro k f hk h1 hf
    obtain ⟨f, rfl⟩ : ∃ k, f = k + 1 := ⟨f - 1, by omega⟩
    rw [L_Wings_numberings_1, if_neg (fun h => h (lT (by omega) (by omega))), show k - 1 = n by omega]
  | succ m ih =>
    intro k f hk h1 hf
    obtain ⟨f, rfl⟩ : ∃ k, f = k + 1 := ⟨f - 1, by omega⟩
    obtain ⟨j, rfl⟩ : ∃ j, k = j + 1 := ⟨k - 1, by omega⟩
    have e : w * fcN (j + 1 - 1) * (j + 1) = w * fcN (j + 1 + 1 - 1) := by
      rw [Nat.add_sub_cancel, Nat.add_sub_cancel, fcN, Nat.mul_assoc, Nat.mul_comm (fcN j)]
    rw [L_Wings_numberings_1, if_pos (lF (by omega) (by omega)), nmul, nadd, e]
    exact ih (j + 1 + 1) f (by omega) (by omega) (by omega)
theorem b_wings (hz : 20000000 ≤ z) (hT : okT T) (hCT : CT 28 M T) (hMT : MT N T) (what : Int32) : ∃ v M' N', F_Rec_wings z what M = some (v, M') ∧ F_Mod_wings z what N = some (v, N') ∧ Fr [147, 148, 149] M M' ∧ Fr [340] N N' := by
  obtain ⟨t1, t2, t3, t4, t5, t6⟩ := hT
  obtain ⟨c1, c2, c3, c4, c5, c6⟩ := hCT
  obtain ⟨m1, m2, m3, m4, m5, m6⟩ := hMT
  obtain ⟨a, ha, hA⟩ := vMask_n (tVn T).1 t5.2
  obtain ⟨b, hb, hB⟩ := vMask_n (tVo T).1 t6.2
  have hV : VW N a b := fun i hi => ⟨⟨hA.1 i hi, by rw [m5.2 i hi, ha]⟩, hB.1 i hi, by rw [m6.2 i hi, hb]⟩
  obtain ⟨N', n1, n2⟩ := mm_wings (N := N) hz hV what
  unfold F_Rec_wings
  by_cases hw : ¬ F_Rec_within what (nI 0) (nI 1) = true
  · rw [if_pos hw] at n1 ⊢
    exact ⟨-1, M, N', rfl, n1, Fr_rf _ _, n2⟩
  · rw [if_neg hw] at n1 ⊢
    obtain ⟨M1, x1, x2, x3⟩ := cw_vlearn (z := z) (a := a) (r := 46) (cj := 147) (by omega) (by omega) t5.1 t5.2 c5 ha
    obtain ⟨M2, y1, y2, y3⟩ := cw_vlearn (z := z) (M := M1) (a := b) (r := 48) (cj := 148) (by omega) (by omega) t6.1 t6.2 (by unfold RwG; rw [x2 48 (by simp), x2 (48 + 1) (by simp)]; exact c6) hb
    have x3' : ∀ s, s < 8 → M2 147 s = nI (a s) := fun s hs => by rw [y2 147 (by simp)]; exact x3 s hs
    have f2 : Fr [147, 148, 149] M M2 := Fr_tr (Fr_wk x2 (fun c' h => by simp only [List.mem_cons, List.not_mem_nil, or_false] at h ⊢; omega)) (Fr_wk y2 (fun c' h => by simp only [List.mem_cons, List.not_mem_nil, or_false] at h ⊢; omega))
    have ba8 := cnt_le (f := fun i => Nat.beq (a i) 0) 8 0 0
    have bb8 := cnt_le (f := fun i => Nat.beq (b i) 0) 8 0 0
    have hU0 : US 0 0 0 := ⟨fun t _ => by rw [Nat.zero_testBit]; exact ⟨fun h => absurd h Bool.false_ne_true, fun ⟨q, hq, _⟩ => absurd hq (Nat.not_lt_zero q)⟩, fun i _ hi => absurd hi (Nat.not_lt_zero i)⟩
    have num : ∃ M3, F_Wings_numberings z 46 2 9 48 2 9 M = some (nI (tS (alN a b) 8 0 0 0), M3) ∧ Fr [147, 148, 149] M M3 := by
      unfold F_Wings_numberings
      rw [x1, ob1_ok, y1, ob1_ok, cw_bare (by omega) x3' hA.1, ob1_ok, cw_bare (by omega) y3 hB.1, ob1_ok, ob1_ok]
      by_cases e : cnt (fun i => Nat.beq (a i) 0) 8 0 0 = cnt (fun i => Nat.beq (b i) 0) 8 0 0
      · obtain ⟨M3, z1, z2, z3⟩ := cw_tried (z := z) (by omega) hA.1 hB.1 8 0 0 12 (dig 0) M2 (by omega) (by omega) (by omega) x3' y3 (fun q hq => absurd hq (Nat.not_lt_zero q))
        have hts := tS_eq hA hB 8 0 0 0 0 (by omega) (by decide) hU0 ⟨fun q hq => absurd hq (Nat.not_lt_zero q), fun i j hi => absurd hi (Nat.not_lt_zero i)⟩ (fun t _ => by rw [Nat.zero_testBit]; exact ⟨fun h => absurd h Bool.false_ne_true, fun ⟨q, hq, _⟩ => absurd hq (Nat.not_lt_zero q)⟩) (by
          rw [e]
          exact cnt_cg 8 0 0 (fun t _ _ => by
            show (!Nat.testBit 0 t && Nat.beq (b t) 0) = Nat.beq (b t) 0
            rw [Nat.zero_testBit]
            rfl))
        refine ⟨M3, ?_, Fr_tr f2 (Fr_wk z2 (fun c' h => by simp only [List.mem_cons, List.not_mem_nil, or_false] at h ⊢; omega))⟩
        rw [← e, decide_eq_false (fun h => h rfl), if_neg Bool.false_ne_true, z1, ob2_ok, hts]
        obtain ⟨r, hr⟩ : ∃ r, r = cnt (fun i => Nat.beq (a i) 0) 8 0 0 := ⟨_, rfl⟩
        obtain ⟨w, hw'⟩ : ∃ w, w = trS a b 8 0 0 (dig 0) := ⟨_, rfl⟩
        rw [← hr] at ba8 ⊢
        rw [← hw']
        by_cases h2 : r < 1
        · have er : r = 0 := by omega
          subst er
          obtain ⟨z', rfl⟩ : ∃ k, z = k + 1 := ⟨z - 1, by omega⟩
          rw [L_Wings_numberings_1, if_neg (fun h => h (lT (by omega) (by omega))), ob1_ok]
          show some (nI w, M3) = some (nI (w * 1), M3)
          rw [Nat.mul_one]
        · have hl := l_fact (z := z) (M := M3) (r := 46) (wd := 2) (mo := 9) (r2 := 48) (wd2 := 2) (mo2 := 9) (n := r) (by omega) w (r - 1) 2 z (by omega) (by omega) (by omega)
          have e1 : w * fcN (2 - 1) = w := Nat.mul_one w
          rw [e1] at hl
          rw [hl, ob1_ok]
      · rw [decide_eq_true (eF e (by omega) (by omega)), if_pos rfl, tS_none hA hB e 8 0 0 0 (by omega) (by decide) hU0]
        exact ⟨M2, rfl, f2⟩
    obtain ⟨M3, z1, z2⟩ := num
    rw [z1, ob2_ok]
    exact ⟨_, M3, N', rfl, n1, z2, n2⟩
end S85
