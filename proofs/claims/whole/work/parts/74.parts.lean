/-! ===== what hangs together: the model's marks ===== -/
def Adj (a b : Nat) : Prop := a + 1 = b ∨ b + 1 = a ∨ a + 10 = b ∨ b + 10 = a
theorem Adj_sy {a b : Nat} (h : Adj a b) : Adj b a := by unfold Adj at *; omega
theorem near_n {a b : Nat} (ha : a < 60) (hb : b < 60) : F_Mod_areNear (nI a) (nI b) = true ↔ Adj a b := by
  unfold F_Mod_areNear F_Mod_apart Adj
  rw [decide_eq_true_eq]
  by_cases h : b < a
  · rw [if_pos (lT h (by omega)), nsb (by omega), neq (by omega) (by omega), neq (by omega) (by omega)]
    omega
  · rw [if_neg (lF (by omega) (by omega)), nsb (by omega), neq (by omega) (by omega), neq (by omega) (by omega)]
    omega
section S74
variable {z : Nat} {N : mM} {W : Wd} {c : Nat}
def Tk (W : Wd) (i : Nat) : Prop := (wAt W (nI i)).isSome = true
/-- b hangs together with a -/
def Cn (W : Wd) (a b : Nat) : Prop := ∀ S : Nat → Prop, S a → (∀ k j, k < 60 → j < 60 → Tk W k → Tk W j → S k → Adj k j → S j) → S b
theorem Cn_rf (a : Nat) : Cn W a a := fun _ h _ => h
theorem Cn_tr {a b d : Nat} (h : Cn W a b) (h' : Cn W b d) : Cn W a d := fun S h1 h2 => h' S (h S h1 h2) h2
theorem Cn_st {a b : Nat} (ha : a < 60) (hb : b < 60) (h1 : Tk W a) (h2 : Tk W b) (h : Adj a b) : Cn W a b := fun S h3 h4 => h4 a b ha hb h1 h2 h3 h
/-- marks: not above their inch, and hanging together with it -/
def MK (W : Wd) (g : Nat → Nat) : Prop := ∀ x, x < 60 → Tk W x → g x ≤ x ∧ Tk W (g x) ∧ Cn W x (g x)
def SM (N : mM) (W : Wd) (g : Nat → Nat) : Prop := ∀ x, x < 60 → (Tk W x → N 332 x = nI (g x)) ∧ (¬ Tk W x → N 332 x = -1)
def sN (g : Nat → Nat) : Nat → Nat
  | 0 => 0
  | n + 1 => sN g n + g n
theorem sN_le {g g' : Nat → Nat} : ∀ n, (∀ x, x < n → g' x ≤ g x) → sN g' n ≤ sN g n := by
  intro n
  induction n with
  | zero => intro _; exact Nat.le_refl _
  | succ n ih =>
    intro h
    have h1 := ih (fun x hx => h x (by omega))
    have h2 := h n (by omega)
    rw [sN, sN]
    omega
theorem sN_lt {g g' : Nat → Nat} {a : Nat} : ∀ n, (∀ x, x < n → g' x ≤ g x) → a < n → g' a < g a → sN g' n < sN g n := by
  intro n
  induction n with
  | zero => intro _ h; omega
  | succ n ih =>
    intro h ha hlt
    have h2 := h n (by omega)
    rw [sN, sN]
    by_cases e : a = n
    · subst e
      have h1 := sN_le a (fun x hx => h x (by omega))
      omega
    · have h1 := ih (fun x hx => h x (by omega)) (by omega) hlt
      omega
def updN (g : Nat → Nat) (a v : Nat) : Nat → Nat := fun x => if x = a then v else g x
theorem l_marks (hz : 100 ≤ z) (hf : wf c W) : ∀ (m k n : Nat) (N : mM), k + m = 60 → m < n → RM N W → (∀ x, x < k → (Tk W x → N 332 x = nI x) ∧ (¬ Tk W x → N 332 x = -1)) →
    ∃ N', L_Mod_findsParts_1 z n (nI k) N = some N' ∧ SM N' W (fun x => x) ∧ Fr [332] N N' := by
  have h20 := wf_20 hf
  intro m
  induction m with
  | zero =>
    intro k n N hk hn hR hE
    obtain ⟨n, rfl⟩ : ∃ k, n = k + 1 := ⟨n - 1, by omega⟩
    rw [L_Mod_findsParts_1, if_neg (lF (by omega) (by omega))]
    exact ⟨N, rfl, fun x hx => hE x (by omega), Fr_rf _ _⟩
  | succ m ih =>
    intro k n N hk hn hR hE
    obtain ⟨n, rfl⟩ : ∃ k, n = k + 1 := ⟨n - 1, by omega⟩
    rw [L_Mod_findsParts_1, if_pos (lT (by omega) (by omega)), mm_isTaken (by omega) hR h20, ob1_ok, ob1_ok]
    have go : ∀ v, (Tk W k → v = nI k) → (¬ Tk W k → v = -1) → ∃ N', L_Mod_findsParts_1 z n (nI (k + 1)) (up N 332 k v) = some N' ∧ SM N' W (fun x => x) ∧ Fr [332] N N' := fun v h1 h2 => by
      obtain ⟨N', g1, g2, g3⟩ := ih (k + 1) n (up N 332 k v) (by omega) (by omega) (RM_congr (upC (by omega)) (upC (by omega)) hR) (fun x hx => by
        by_cases e : x = k
        · subst e
          rw [up_same]
          exact ⟨h1, h2⟩
        · rw [up_neJ _ _ _ e]
          exact hE x (by omega))
      exact ⟨N', g1, g2, Fr_tr (Fr_up (Fr_rf _ _) (by simp)) g3⟩
    by_cases h : (wAt W (nI k)).isSome = true
    · rw [if_pos h, ob1_ok, wa_ok (by omega) (by omega), ob1_ok, nadd]
      exact go _ (fun _ => rfl) (fun h' => absurd h h')
    · rw [if_neg h, ob1_ok, wa_ok (by omega) (by omega), ob1_ok, nadd]
      exact go _ (fun h' => absurd h' h) (fun _ => rfl)
theorem l_parts4 {a : Nat} (ha : a < 60) : ∀ (m k n : Nat) (f : Bool) (N : mM) (g : Nat → Nat), k + m = 60 → m < n → SM N W g → MK W g →
    ∃ f' N' g', L_Mod_findsParts_4 z (nI a) n f (nI k) N = some (f', N') ∧ SM N' W g' ∧ MK W g' ∧ (∀ x, g' x ≤ g x) ∧ Fr [332] N N' ∧ (f' = true → f = true ∨ sN g' 60 < sN g 60) ∧
      (f' = false → f = false ∧ g' = g ∧ ∀ b, k ≤ b → b < 60 → Tk W a → Tk W b → Adj a b → g a ≤ g b) := by
  intro m
  induction m with
  | zero =>
    intro k n f N g hk hn hS hK
    obtain ⟨n, rfl⟩ : ∃ k, n = k + 1 := ⟨n - 1, by omega⟩
    rw [L_Mod_findsParts_4, if_neg (lF (by omega) (by omega))]
    exact ⟨f, N, g, rfl, hS, hK, fun _ => Nat.le_refl _, Fr_rf _ _, fun h => Or.inl h, fun h => ⟨h, rfl, fun b h1 h2 => by omega⟩⟩
  | succ m ih =>
    intro k n f N g hk hn hS hK
    obtain ⟨n, rfl⟩ : ∃ k, n = k + 1 := ⟨n - 1, by omega⟩
    have hk60 : k < 60 := by omega
    have skip : (∀ _ : Tk W a, ∀ _ : Tk W k, ∀ _ : Adj a k, g a ≤ g k) → ∃ f' N' g', L_Mod_findsParts_4 z (nI a) n f (nI (k + 1)) N = some (f', N') ∧ SM N' W g' ∧ MK W g' ∧ (∀ x, g' x ≤ g x) ∧ Fr [332] N N' ∧ (f' = true → f = true ∨ sN g' 60 < sN g 60) ∧
        (f' = false → f = false ∧ g' = g ∧ ∀ b, k ≤ b → b < 60 → Tk W a → Tk W b → Adj a b → g a ≤ g b) := fun hno => by
      obtain ⟨f', N', g', q1, q2, q3, q4, q5, q6, q7⟩ := ih (k + 1) n f N g (by omega) (by omega) hS hK
      refine ⟨f', N', g', q1, q2, q3, q4, q5, q6, fun h => ?_⟩
      obtain ⟨r1, r2, r3⟩ := q7 h
      refine ⟨r1, r2, fun b h1 h2 h3 h4 h5 => ?_⟩
      by_cases e : b = k
      · subst e
        exact hno h3 h4 h5
      · exact r3 b (by omega) h2 h3 h4 h5
    rw [L_Mod_findsParts_4, if_pos (lT (by omega) (by omega)), ra_ok ha (by omega), ra_ok hk60 (by omega), ob1_ok, ob1_ok, ob1_ok, ob1_ok, ob1_ok, nadd]
    by_cases hTa : Tk W a
    · have ea := (hS a ha).1 hTa
      have la := (hK a ha hTa).1
      rw [ea, decide_eq_false (mF (by omega)), if_neg Bool.false_ne_true]
      by_cases hTk : Tk W k
      · have ek := (hS k hk60).1 hTk
        have lk := (hK k hk60 hTk).1
        rw [ek, decide_eq_false (mF (by omega)), ob1_ok, if_neg Bool.false_ne_true, ob1_ok]
        by_cases hAd : Adj a k
        · have hnn : ¬ ¬ F_Mod_areNear (nI a) (nI k) = true := fun h => h ((near_n ha hk60).mpr hAd)
          rw [decide_eq_false hnn, if_neg Bool.false_ne_true]
          by_cases hlt : g k < g a
          · rw [decide_eq_false (fun h => h (lT hlt (by omega))), ob1_ok, if_neg Bool.false_ne_true, ob1_ok, wa_ok ha (by omega), ob1_ok]
            have hle : ∀ x, updN g a (g k) x ≤ g x := fun x => by
              unfold updN
              by_cases e : x = a
              · rw [if_pos e, e]; omega
              · rw [if_neg e]; exact Nat.le_refl _
            obtain ⟨f', N', g', q1, q2, q3, q4, q5, q6, q7⟩ := ih (k + 1) n true (up N 332 a (nI (g k))) (updN g a (g k)) (by omega) (by omega) (fun x hx => by
              unfold updN
              by_cases e : x = a
              · subst e
                rw [up_same, if_pos rfl]
                exact ⟨fun _ => rfl, fun h => absurd hTa h⟩
              · rw [up_neJ _ _ _ e, if_neg e]
                exact hS x hx) (fun x hx hT => by
              unfold updN
              by_cases e : x = a
              · subst e
                rw [if_pos rfl]
                obtain ⟨k1, k2, k3⟩ := hK k hk60 hTk
                exact ⟨by omega, k2, Cn_tr (Cn_st ha hk60 hTa hTk hAd) k3⟩
              · rw [if_neg e]
                exact hK x hx hT)
            refine ⟨f', N', g', q1, q2, q3, fun x => Nat.le_trans (q4 x) (hle x), Fr_tr (Fr_up (Fr_rf _ _) (by simp)) q5, fun _ => Or.inr ?_, fun h => ?_⟩
            · refine sN_lt 60 (fun x _ => Nat.le_trans (q4 x) (hle x)) ha ?_
              have h1 := q4 a
              have h2 : updN g a (g k) a = g k := if_pos rfl
              omega
            · have := (q7 h).1
              cases this
          · rw [decide_eq_true (lF (by omega) (by omega)), ob1_ok, if_pos rfl]
            exact skip (fun _ _ _ => by omega)
        · have hnn : ¬ F_Mod_areNear (nI a) (nI k) = true := fun h => hAd ((near_n ha hk60).mp h)
          rw [decide_eq_true hnn, if_pos rfl, ob1_ok, if_pos rfl]
          exact skip (fun _ _ h => absurd h hAd)
      · have ek := (hS k hk60).2 hTk
        rw [ek, decide_eq_true rfl, ob1_ok, if_pos rfl, ob1_ok, if_pos rfl, ob1_ok, if_pos rfl]
        exact skip (fun _ h _ => absurd h hTk)
    · have ea := (hS a ha).2 hTa
      rw [ea, decide_eq_true rfl, if_pos rfl, ob1_ok, if_pos rfl, ob1_ok, if_pos rfl, ob1_ok, if_pos rfl]
      exact skip (fun h _ _ => absurd h hTa)
theorem l_parts3 (hz : 100 ≤ z) : ∀ (m k n : Nat) (f : Bool) (N : mM) (g : Nat → Nat), k + m = 60 → m < n → SM N W g → MK W g →
    ∃ f' N' g', L_Mod_findsParts_3 z n f (nI k) N = some (f', N') ∧ SM N' W g' ∧ MK W g' ∧ (∀ x, g' x ≤ g x) ∧ Fr [332] N N' ∧ (f' = true → f = true ∨ sN g' 60 < sN g 60) ∧
      (f' = false → f = false ∧ g' = g ∧ ∀ a b, k ≤ a → a < 60 → b < 60 → Tk W a → Tk W b → Adj a b → g a ≤ g b) := by
  intro m
  induction m with
  | zero =>
    intro k n f N g hk hn hS hK
    obtain ⟨n, rfl⟩ : ∃ k, n = k + 1 := ⟨n - 1, by omega⟩
    rw [L_Mod_findsParts_3, if_neg (lF (by omega) (by omega))]
    exact ⟨f, N, g, rfl, hS, hK, fun _ => Nat.le_refl _, Fr_rf _ _, fun h => Or.inl h, fun h => ⟨h, rfl, fun a b h1 h2 => by omega⟩⟩
  | succ m ih =>
    intro k n f N g hk hn hS hK
    obtain ⟨n, rfl⟩ : ∃ k, n = k + 1 := ⟨n - 1, by omega⟩
    obtain ⟨f1, N1, g1, p1, p2, p3, p4, p5, p6, p7⟩ := l_parts4 (z := z) (show k < 60 by omega) 60 0 z f N g (by omega) (by omega) hS hK
    obtain ⟨f', N', g', q1, q2, q3, q4, q5, q6, q7⟩ := ih (k + 1) n f1 N1 g1 (by omega) (by omega) p2 p3
    refine ⟨f', N', g', by rw [L_Mod_findsParts_3, if_pos (lT (by omega) (by omega)), p1, ob2_ok, nadd, q1], q2, q3, fun x => Nat.le_trans (q4 x) (p4 x), Fr_tr p5 q5, fun h => ?_, fun h => ?_⟩
    · have hle := sN_le (g := g) (g' := g1) 60 (fun x _ => p4 x)
      have hle2 := sN_le (g := g1) (g' := g') 60 (fun x _ => q4 x)
      rcases q6 h with h1 | h1
      · rcases p6 h1 with h2 | h2
        · exact Or.inl h2
        · exact Or.inr (by omega)
      · exact Or.inr (by omega)
    · obtain ⟨r1, r2, r3⟩ := q7 h
      obtain ⟨s1, s2, s3⟩ := p7 r1
      subst s2
      refine ⟨s1, r2, fun a b h1 h2 h3 => ?_⟩
      by_cases e : a = k
      · subst e
        exact s3 b (Nat.zero_le _) h3
      · exact r3 a b (by omega) h2 h3
/-- the marks of those that hang together are one -/
def FX (W : Wd) (g : Nat → Nat) : Prop := ∀ a b, a < 60 → b < 60 → Tk W a → Tk W b → Adj a b → g a ≤ g b
theorem l_parts2 (hz : 100 ≤ z) : ∀ (n : Nat) (N : mM) (g : Nat → Nat), sN g 60 + 1 < n → SM N W g → MK W g → ∃ b N' g', L_Mod_findsParts_2 z n true N = some (b, N') ∧ SM N' W g' ∧ MK W g' ∧ FX W g' ∧ Fr [332] N N' := by
  intro n
  induction n with
  | zero => intro N g h; omega
  | succ n ih =>
    intro N g h hS hK
    obtain ⟨f', N', g', q1, q2, q3, q4, q5, q6, q7⟩ := l_parts3 (z := z) hz 60 0 z false N g (by omega) (by omega) hS hK
    rw [L_Mod_findsParts_2, if_pos rfl, q1, ob2_ok]
    cases f' with
    | true =>
      have h1 := (q6 rfl).resolve_left Bool.false_ne_true
      obtain ⟨b, N2, g2, r1, r2, r3, r4, r5⟩ := ih N' g' (by omega) q2 q3
      exact ⟨b, N2, g2, r1, r2, r3, r4, Fr_tr q5 r5⟩
    | false =>
      obtain ⟨-, r2, r3⟩ := q7 rfl
      obtain ⟨n, rfl⟩ : ∃ k, n = k + 1 := ⟨n - 1, by omega⟩
      rw [L_Mod_findsParts_2, if_neg Bool.false_ne_true]
      exact ⟨_, N', g', rfl, q2, q3, by rw [r2]; exact fun a b h2 h3 => r3 a b (Nat.zero_le _) h2 h3, q5⟩
theorem mm_parts (hz : 4000 ≤ z) (hf : wf c W) (hR : RM N W) : ∃ N' g, F_Mod_findsParts z N = some N' ∧ SM N' W g ∧ MK W g ∧ FX W g ∧ Fr [332] N N' := by
  obtain ⟨N1, a1, a2, a3⟩ := l_marks (z := z) (by omega) hf 60 0 z N (by omega) (by omega) hR (fun x hx => absurd hx (Nat.not_lt_zero x))
  have hs : sN (fun x => x) 60 = 1770 := by decide
  obtain ⟨b, N2, g, b1, b2, b3, b4, b5⟩ := l_parts2 (z := z) (by omega) z N1 (fun x => x) (by rw [hs]; omega) a2 (fun x hx hT => ⟨Nat.le_refl _, hT, Cn_rf x⟩)
  refine ⟨N2, g, ?_, b2, b3, b4, Fr_tr a3 b5⟩
  unfold F_Mod_findsParts
  rw [a1, ob1_ok, b1, ob2_ok]
/-- the same mark: the same part -/
theorem FX_eq {g : Nat → Nat} (hK : MK W g) (hX : FX W g) {a b : Nat} (ha : a < 60) (hTa : Tk W a) (h : Cn W a b) : b < 60 ∧ Tk W b ∧ g b = g a := by
  refine h (fun x => x < 60 ∧ Tk W x ∧ g x = g a) ⟨ha, hTa, rfl⟩ (fun k j hk hj hTk hTj hkk hA => ⟨hj, hTj, ?_⟩)
  have h1 := hX k j hk hj hTk hTj hA
  have h2 := hX j k hj hk hTj hTk (Adj_sy hA)
  omega
theorem g_root {g : Nat → Nat} (hK : MK W g) (hX : FX W g) {a : Nat} (ha : a < 60) (hTa : Tk W a) : g (g a) = g a := (FX_eq hK hX ha hTa (hK a ha hTa).2.2).2.2
theorem Cn_sy {a b : Nat} (ha : a < 60) (hTa : Tk W a) (h : Cn W a b) : Cn W b a := by
  refine h (fun x => Cn W x a) (Cn_rf a) (fun k j hk hj hTk hTj hc hA => Cn_tr (Cn_st hj hk hTj hTk (Adj_sy hA)) hc)
theorem g_Cn {g : Nat → Nat} (hK : MK W g) {a b : Nat} (ha : a < 60) (hTa : Tk W a) (hb : b < 60) (hTb : Tk W b) (h : g a = g b) : Cn W a b := by
  have h1 := (hK a ha hTa).2.2
  have h2 := Cn_sy hb hTb (hK b hb hTb).2.2
  rw [h] at h1
  exact Cn_tr h1 h2
end S74
