/-! ===== in how many ways a row is read: both ways ===== -/
theorem cnt_add {f : Nat → Bool} : ∀ (m t a b : Nat), cnt f m t (a + b) = cnt f m t a + b := by
  intro m
  induction m with
  | zero => intro t a b; rfl
  | succ m ih =>
    intro t a b
    rw [cnt, cnt, ← ih]
    congr 1
    omega
theorem cnt_le {f : Nat → Bool} : ∀ (m t a : Nat), cnt f m t a ≤ a + m := by
  intro m
  induction m with
  | zero => intro t a; exact Nat.le_refl _
  | succ m ih =>
    intro t a
    have h := ih (t + 1) (a + (f t).toNat)
    have h1 : (f t).toNat ≤ 1 := by cases f t <;> decide
    rw [cnt]
    omega
theorem cnt_mono {f g : Nat → Bool} : ∀ (m t a : Nat), (∀ i, t ≤ i → i < t + m → f i = true → g i = true) → cnt f m t a ≤ cnt g m t a := by
  intro m
  induction m with
  | zero => intro t a _; exact Nat.le_refl _
  | succ m ih =>
    intro t a h
    have h1 : (f t).toNat ≤ (g t).toNat := by
      cases e : f t with
      | false => exact Nat.zero_le _
      | true => rw [h t (by omega) (by omega) e]; exact Nat.le_refl _
    have h2 := ih (t + 1) (a + (f t).toNat) (fun i a b => h i (by omega) (by omega))
    obtain ⟨d, hd⟩ : ∃ d, (g t).toNat = (f t).toNat + d := ⟨(g t).toNat - (f t).toNat, by omega⟩
    rw [cnt, cnt, hd, ← Nat.add_assoc, cnt_add (f := g) m (t + 1) (a + (f t).toNat) d]
    omega
theorem cnt_strict {f g : Nat → Bool} {s : Nat} : ∀ (m t a : Nat), (∀ i, t ≤ i → i < t + m → f i = true → g i = true) → t ≤ s → s < t + m → f s = false → g s = true → cnt f m t a + 1 ≤ cnt g m t a := by
  intro m
  induction m with
  | zero => intro t a _ h1 h2; omega
  | succ m ih =>
    intro t a h h1 h2 hf hg
    rw [cnt, cnt]
    by_cases e : s = t
    · subst e
      have h3 := cnt_mono (f := f) (g := g) m (s + 1) (a + (f s).toNat) (fun i a b => h i (by omega) (by omega))
      rw [hf, hg] at *
      rw [show a + true.toNat = a + false.toNat + 1 from rfl, cnt_add (f := g) m (s + 1) (a + false.toNat) 1]
      omega
    · have h3 : (f t).toNat ≤ (g t).toNat := by
        cases e : f t with
        | false => exact Nat.zero_le _
        | true => rw [h t (by omega) (by omega) e]; exact Nat.le_refl _
      have h4 := ih (t + 1) (a + (f t).toNat) (fun i a b => h i (by omega) (by omega)) (by omega) (by omega) hf hg
      obtain ⟨d, hd⟩ : ∃ d, (g t).toNat = (f t).toNat + d := ⟨(g t).toNat - (f t).toNat, by omega⟩
      rw [hd, ← Nat.add_assoc, cnt_add (f := g) m (t + 1) (a + (f t).toNat) d]
      omega
/-- how many lie nearer to the tack than inch k -/
def atC (W : Wd) (k : Nat) : Nat := cnt (fun t => decide ((wT W t 4).toNatClampNeg < k)) (wN W) 0 0
theorem atC_20 {W : Wd} {c : Nat} (hf : wf c W) (k : Nat) : atC W k ≤ 20 := by
  have h1 := cnt_le (f := fun t => decide ((wT W t 4).toNatClampNeg < k)) (wN W) 0 0
  have h2 := wf_20 hf
  unfold atC
  omega
theorem atC_up {W : Wd} (k : Nat) : atC W k ≤ atC W (k + 1) := cnt_mono _ _ _ (fun i _ _ h => decide_eq_true (Nat.lt_succ_of_lt (of_decide_eq_true h)))
theorem atC_one {W : Wd} {k t : Nat} (hk : k < 60) (h : wAt W (nI k) = some t) : atC W k + 1 ≤ atC W (k + 1) := by
  obtain ⟨ht, e⟩ := wAt_some h
  have e2 : (wT W t 4).toNatClampNeg = k := by rw [e, nI_clamp (by omega)]
  exact cnt_strict (s := t) _ _ _ (fun i _ _ h => decide_eq_true (Nat.lt_succ_of_lt (of_decide_eq_true h))) (Nat.zero_le _) (by omega) (decide_eq_false (by rw [e2]; omega)) (decide_eq_true (by rw [e2]; omega))
def stepW (R : Nat → Int32) (s : Nat) (x : Int32) (f : Nat → Nat) : Nat → Nat := fun j => if 0 < j ∧ j ≤ s ∧ R (j - 1) = x then f j + f (j - 1) else f j
def dpW (W : Wd) (R : Nat → Int32) (s : Nat) : Nat → Nat → Nat
  | 0 => fun j => if j = 0 then 1 else 0
  | k + 1 => match wAt W (nI k) with
    | none => dpW W R s k
    | some t => stepW R s (wT W t 1) (dpW W R s k)
def grW (W : Wd) (R : Nat → Int32) (s : Nat) : Nat → Nat
  | 0 => 0
  | k + 1 => match wAt W (nI k) with
    | none => grW W R s k
    | some t => if grW W R s k < s ∧ R (grW W R s k) = wT W t 1 then grW W R s k + 1 else grW W R s k
theorem dp_bound {W : Wd} {R : Nat → Int32} {s : Nat} : ∀ k, k ≤ 60 → ∀ j, dpW W R s k j ≤ 2 ^ atC W k := by
  intro k
  induction k with
  | zero =>
    intro _ j
    have h1 : 1 ≤ 2 ^ atC W 0 := Nat.one_le_two_pow
    show (if j = 0 then 1 else 0) ≤ _
    split <;> omega
  | succ k ih =>
    intro hk j
    have hi := ih (by omega)
    have hup : 2 ^ atC W k ≤ 2 ^ atC W (k + 1) := Nat.pow_le_pow_right (by omega) (atC_up k)
    rw [dpW]
    cases h : wAt W (nI k) with
    | none => exact Nat.le_trans (hi j) hup
    | some t =>
      have h2 : 2 ^ (atC W k + 1) ≤ 2 ^ atC W (k + 1) := Nat.pow_le_pow_right (by omega) (atC_one (by omega) h)
      rw [Nat.pow_succ] at h2
      show stepW R s (wT W t 1) (dpW W R s k) j ≤ _
      unfold stepW
      have h3 := hi j
      have h4 := hi (j - 1)
      split <;> omega
theorem dp_20 {W : Wd} {c : Nat} (hf : wf c W) {R : Nat → Int32} {s k : Nat} (hk : k ≤ 60) (j : Nat) : dpW W R s k j ≤ 1048576 :=
  Nat.le_trans (dp_bound k hk j) (Nat.le_trans (Nat.pow_le_pow_right (by omega) (atC_20 hf k)) (by decide))
theorem gr_le {W : Wd} {R : Nat → Int32} {s : Nat} : ∀ k, grW W R s k ≤ s := by
  intro k
  induction k with
  | zero => exact Nat.zero_le _
  | succ k ih =>
    rw [grW]
    cases h : wAt W (nI k) with
    | none => exact ih
    | some t =>
      show (if grW W R s k < s ∧ R (grW W R s k) = wT W t 1 then grW W R s k + 1 else grW W R s k) ≤ s
      split
      · rename_i h'
        have := h'.1
        omega
      · exact ih
theorem dp_gr {W : Wd} {R : Nat → Int32} {s : Nat} : ∀ k, ∀ j, j ≤ s → (1 ≤ dpW W R s k j ↔ j ≤ grW W R s k) := by
  intro k
  induction k with
  | zero =>
    intro j _
    show 1 ≤ (if j = 0 then 1 else 0) ↔ j ≤ 0
    split <;> omega
  | succ k ih =>
    intro j hj
    have hg := gr_le (W := W) (R := R) (s := s) k
    rw [dpW, grW]
    cases h : wAt W (nI k) with
    | none => exact ih j hj
    | some t =>
      show 1 ≤ stepW R s (wT W t 1) (dpW W R s k) j ↔ j ≤ if grW W R s k < s ∧ R (grW W R s k) = wT W t 1 then grW W R s k + 1 else grW W R s k
      unfold stepW
      have i1 := ih j hj
      have i2 := ih (j - 1) (by omega)
      obtain ⟨g, hgd⟩ : ∃ g, g = grW W R s k := ⟨_, rfl⟩
      rw [← hgd] at i1 i2 hg ⊢
      by_cases hc : 0 < j ∧ j ≤ s ∧ R (j - 1) = wT W t 1
      · rw [if_pos hc]
        by_cases e : j - 1 = g
        · rw [if_pos ⟨by omega, by rw [← e]; exact hc.2.2⟩]
          omega
        · by_cases hd : g < s ∧ R g = wT W t 1
          · rw [if_pos hd]; omega
          · rw [if_neg hd]; omega
      · rw [if_neg hc]
        by_cases hd : g < s ∧ R g = wT W t 1
        · rw [if_pos hd]
          have : j ≠ g + 1 := fun e => hc ⟨by omega, by omega, by rw [e, Nat.add_sub_cancel]; exact hd.2⟩
          omega
        · rw [if_neg hd]; exact i1
section S66
variable {z : Nat} {M N : mM} {p : Nat → Nat} {W : Wd} {c : Nat} {F : Rw} {T : Tx}
theorem l_ways2 {f : Nat → Nat} {s : Nat} (h8 : s ≤ 8) (hs : F.1 = s) {x : Int32} {t : Nat} (hd : dT (Option.map p (some t)) = some (p t)) (hx : M (p t) 1 = x) (hpt : p t ≠ 140) (hB : ∀ j, j ≤ s → f j ≤ 1048576) : ∀ (m n : Nat) (M' : mM) (y : Int32), y = nI m - nI 1 → m ≤ s → m < n → Fr [140] M M' → RwG 40 1 M F → (∀ j, j ≤ s → M' 140 j = nI (if j ≤ m then f j else stepW (fun j => F.2 j 0) s x f j)) →
    ∃ M'', L_Asker_ways_2 z 1 40 1 8 (Option.map p (some t)) n y M' = some M'' ∧ Fr [140] M M'' ∧ ∀ j, j ≤ s → M'' 140 j = nI (stepW (fun j => F.2 j 0) s x f j) := by
  intro m
  induction m with
  | zero =>
    intro n M' y hy hm hn hF hR hE
    obtain ⟨n, rfl⟩ : ∃ k, n = k + 1 := ⟨n - 1, by omega⟩
    have hneg : y < nI 0 := by rw [hy]; decide
    rw [L_Asker_ways_2, if_neg (fun h => h.1 hneg)]
    refine ⟨M', rfl, hF, fun j hj => ?_⟩
    rw [hE j hj]
    by_cases h : j ≤ 0
    · rw [if_pos h]
      unfold stepW
      rw [if_neg (fun h' => by omega)]
    · rw [if_neg h]
  | succ m ih =>
    intro n M' y hy hm hn hF hR hE
    obtain ⟨n, rfl⟩ : ∃ k, n = k + 1 := ⟨n - 1, by omega⟩
    have hy' : y = nI m := by rw [hy, nsb (by omega), Nat.add_sub_cancel]
    subst hy'
    have hstep : nI m + (-1) = nI m - nI 1 := by rw [show nI 1 = (1 : Int32) from rfl]; grind
    have e40 : M' 40 = M 40 := hF 40 (by simp)
    have e41 : M' 41 = M 41 := hF 41 (by simp)
    have ept : M' (p t) = M (p t) := hF (p t) (by simp only [List.mem_cons, List.not_mem_nil, or_false]; exact hpt)
    have hg : F_Rows_get 40 1 8 (nI m) (nI 0) M' = some (F.2 m 0) := by
      rw [get_ok (n := F.1) (by rw [e40]; exact hR.1) (by omega) (by omega) (by omega) (by omega) (by omega), e41]
      exact congrArg some (hR.2 m 0 (by omega) (by omega))
    rw [L_Asker_ways_2, if_pos ⟨lF (Nat.zero_le _) (by omega), fun h => by cases h⟩, hg, ob1_ok, hd, ob1_ok, ob1_ok, ept, hx]
    by_cases hk : F.2 m 0 = x
    · have h1 := hB (m + 1) hm
      have h2 := hB m (by omega)
      have hlt : f (m + 1) + f m < 1000000007 := by omega
      rw [decide_eq_true hk, if_pos rfl, nadd, ra_ok (by omega) (by omega), ob1_ok, ra_ok (by omega) (by omega), ob1_ok, ob1_ok, hE (m + 1) hm, hE m (by omega), if_pos (Nat.le_refl _), if_pos (by omega), rem_n (by omega) (by omega), Nat.mod_eq_of_lt hlt, wa_ok (by omega) (by omega), ob1_ok, ob1_ok]
      refine ih n _ _ hstep (by omega) (by omega) (Fr_up hF (by simp)) hR (fun j hj => ?_)
      by_cases e : j = m + 1
      · rw [e, up_same, if_neg (by omega)]
        unfold stepW
        rw [if_pos ⟨by omega, hm, hk⟩, Nat.add_sub_cancel]
      · rw [up_neJ _ _ _ e, hE j hj]
        by_cases h : j ≤ m
        · rw [if_pos h, if_pos (by omega)]
        · rw [if_neg h, if_neg (by omega)]
    · rw [decide_eq_false hk, if_neg Bool.false_ne_true, ob1_ok]
      refine ih n _ _ hstep (by omega) (by omega) hF hR (fun j hj => ?_)
      rw [hE j hj]
      by_cases e : j = m + 1
      · rw [e, if_pos (Nat.le_refl _), if_neg (by omega)]
        unfold stepW
        rw [if_neg (fun h => hk (by have := h.2.2; rwa [Nat.add_sub_cancel] at this))]
      · by_cases h : j ≤ m
        · rw [if_pos h, if_pos (by omega)]
        · rw [if_neg h, if_neg (by omega)]
theorem l_mways3 {f : Nat → Nat} {s : Nat} (h8 : s ≤ 8) {R : Nat → Int32} (hR : ∀ j, j < s → N 333 j = R j) {x : Int32} (hB : ∀ j, j ≤ s → f j ≤ 1048576) : ∀ (m n : Nat) (N' : mM), m ≤ s → m < n → Fr [334] N N' → (∀ j, j ≤ s → N' 334 j = nI (if j ≤ m then f j else stepW R s x f j)) →
    ∃ N'', L_Mod_sayingWays_3 z x n (nI m) N' = some N'' ∧ Fr [334] N N'' ∧ ∀ j, j ≤ s → N'' 334 j = nI (stepW R s x f j) := by
  intro m
  induction m with
  | zero =>
    intro n N' hm hn hF hE
    obtain ⟨n, rfl⟩ : ∃ k, n = k + 1 := ⟨n - 1, by omega⟩
    rw [L_Mod_sayingWays_3, if_neg (lF (Nat.le_refl _) (by omega))]
    refine ⟨N', rfl, hF, fun j hj => ?_⟩
    rw [hE j hj]
    by_cases h : j ≤ 0
    · rw [if_pos h]
      unfold stepW
      rw [if_neg (fun h' => by omega)]
    · rw [if_neg h]
  | succ m ih =>
    intro n N' hm hn hF hE
    obtain ⟨n, rfl⟩ : ∃ k, n = k + 1 := ⟨n - 1, by omega⟩
    have hstep : nI (m + 1) + (-1) = nI m := by rw [show nI (m + 1) = nI m + nI 1 from (nadd m 1).symm, show nI 1 = (1 : Int32) from rfl]; grind
    have e3 : N' 333 = N 333 := hF 333 (by simp)
    rw [L_Mod_sayingWays_3, if_pos (lT (by omega) (by omega)), nsb (by omega), Nat.add_sub_cancel, ra_ok (by omega) (by omega), ob1_ok, ob1_ok, e3, hR m (by omega), hstep]
    by_cases hk : R m = x
    · have h1 := hB (m + 1) hm
      have h2 := hB m (by omega)
      have hlt : f (m + 1) + f m < 1000000007 := by omega
      rw [decide_eq_true hk, if_pos rfl, ra_ok (by omega) (by omega), ob1_ok, ra_ok (by omega) (by omega), ob1_ok, hE (m + 1) hm, hE m (by omega), if_pos (Nat.le_refl _), if_pos (by omega), added_n (by omega) (by omega), Nat.mod_eq_of_lt hlt, wa_ok (by omega) (by omega), ob1_ok, ob1_ok]
      refine ih n _ (by omega) (by omega) (Fr_up hF (by simp)) (fun j hj => ?_)
      by_cases e : j = m + 1
      · rw [e, up_same, if_neg (by omega)]
        unfold stepW
        rw [if_pos ⟨by omega, hm, hk⟩, Nat.add_sub_cancel]
      · rw [up_neJ _ _ _ e, hE j hj]
        by_cases h : j ≤ m
        · rw [if_pos h, if_pos (by omega)]
        · rw [if_neg h, if_neg (by omega)]
    · rw [decide_eq_false hk, if_neg Bool.false_ne_true, ob1_ok]
      refine ih n _ (by omega) (by omega) hF (fun j hj => ?_)
      rw [hE j hj]
      by_cases e : j = m + 1
      · rw [e, if_pos (Nat.le_refl _), if_neg (by omega)]
        unfold stepW
        rw [if_neg (fun h => hk (by have := h.2.2; rwa [Nat.add_sub_cancel] at this))]
      · by_cases h : j ≤ m
        · rw [if_pos h, if_pos (by omega)]
        · rw [if_neg h, if_neg (by omega)]
end S66
