/-! ===== the law tells: the class's way ===== -/
def Den (K : Nat → Int32) (b e : Nat) (f : En → Int32) : Prop := b ≤ e ∧ ∀ env : En, cev env K (e - b) b [] = some [f env]
/-- a law: how many lines; a line's word, value, condition -/
abbrev LA : Type := Nat × (Nat → Int32) × (Nat → En → Int32) × (Nat → Option (En → Int32))
abbrev aN (A : LA) : Nat := A.1
abbrev aW (A : LA) : Nat → Int32 := A.2.1
abbrev aF (A : LA) : Nat → En → Int32 := A.2.2.1
abbrev aG (A : LA) : Nat → Option (En → Int32) := A.2.2.2
def lineP (A : LA) (word : Int32) (env : En) (i : Nat) : Bool := decide (aW A i = word) && (match aG A i with
  | none => true
  | some g => decide (¬ g env = nI 0))
def usS (word : Int32) (env : En) : Int32 := if word = nI 0 then nI 10 * env 4 - nI 50 * env 7 else if word = nI 1 then nI 20 * env 2 + nI 10 * env 7 - nI 2 * env 4 else env 8 / nI 4
def tellV (A : LA) (word : Int32) (env : En) : Int32 := match fi (lineP A word env) (aN A) 0 with
  | some i => aF A i env
  | none => usS word env
def tellsS (A : LA) (word : Int32) (env : En) : Int32 := F_Math_max (nI 0) (F_Math_min (tellV A word env) (if word = nI 2 then nI 9 else nI 1000))
def CL (l : Nat) (M : mM) (A : LA) : Prop :=
  aN A ≤ 16 ∧ M (l + 1) 3 = nI (aN A) ∧ ∃ cs, cs ≤ 400 ∧ M l 2 = nI cs ∧ ∀ i, i < aN A → ∃ b e e2, M (l + 2) (i * 5 + 0) = aW A i ∧ M (l + 2) (i * 5 + 1) = nI b ∧ M (l + 2) (i * 5 + 2) = nI e ∧ M (l + 2) (i * 5 + 3) = nI e2 ∧ e ≤ e2 ∧ e2 ≤ cs ∧ Den (M (l + 3)) b e (aF A i) ∧
    (match aG A i with
     | none => e = e2
     | some g => e < e2 ∧ Den (M (l + 3)) e e2 g)
theorem CL_congr {l : Nat} {M M' : mM} {A : LA} (h : CL l M A) (e : ∀ c, l ≤ c → c ≤ l + 3 → M' c = M c) : CL l M' A := by
  unfold CL at h ⊢
  rw [e l (by omega) (by omega), e (l + 1) (by omega) (by omega), e (l + 2) (by omega) (by omega), e (l + 3) (by omega) (by omega)]
  exact h
theorem get_ok {r wd mo i k n : Nat} {M : mM} (hn : M r 3 = nI n) (hmo : n ≤ mo) (hwd : wd ≤ 5) (hmo2 : mo ≤ 150) (hi : i < n) (hk : k < wd) : F_Rows_get r wd mo (nI i) (nI k) M = some (M (r + 1) (i * wd + k)) := by
  have h1 : i * wd + k < wd * mo := idx_lt (by omega) hk
  have h2 : wd * mo ≤ 5 * 150 := Nat.mul_le_mul hwd hmo2
  unfold F_Rows_get
  rw [ob1_ok, if_pos (decide_eq_true ⟨⟨⟨lF (by omega) (by omega), by rw [hn]; exact lT hi (by omega)⟩, lF (by omega) (by omega)⟩, lT hk (by omega)⟩), nmul, nadd, ra_ok h1 (by omega)]
  rfl
theorem max0 {b : Nat} (hb : b < 2147483648) : F_Math_max (nI 0) (nI b) = nI b := by
  unfold F_Math_max
  by_cases h : 0 < b
  · rw [if_pos (lT h hb)]
  · rw [if_neg (lF (by omega) (by omega))]
    congr 1
    omega
section S26
variable {th : Bool} {z w l ct : Nat} {M : mM} {p : Nat → Nat} {W : Wd} {c : Nat} {T : Nat → Int32} {i : Nat} {A : LA}
theorem cw_value (hz : 1000 ≤ z) (hl : isL l) (hout : ∀ c', inW w c' → c' ≠ l + 4) (hct : inW w ct) (hf : wf c W) (hc : c < 2147483648) (hi : i < 60) (hat : T 4 = nI i) (hC : CW th w M p W) (hT : TC M ct T) {b e cs : Nat} {f : En → Int32} (hcs : cs ≤ 400) (hL : M l 2 = nI cs) (he : e ≤ cs) (hd : Den (M (l + 3)) b e f) :
    ∃ M', F_Law_value z l (nI b) (nI e) w ct M = some (f (envW W T), M') ∧ Fr [l + 4] M M' := by
  obtain ⟨hbe, hd⟩ := hd
  obtain ⟨M', e1, e2, e3, -⟩ := l_value (z := z) hl hout hct hf hc hi hat (K := M (l + 3)) he hcs (kt := fun (top_73 : Int32) (M74 : mM) => ob1 (if top_73 < (nI 1) then some (nI 0) else ob1 (ra M74 (l + 4) 64 (nI 0)) fun v81 => some (v81)) fun v78 => some (v78, M74)) (e - b) b z [] [f (envW W T)] M hC hT (hd _) (fun _ _ => rfl) (by omega) hL trivial (by simp) (by omega)
  refine ⟨M', ?_, e3⟩
  unfold F_Law_value
  rw [max0 (by omega)]
  refine Eq.trans e1 ?_
  have hv : M' (l + 4) 0 = f (envW W T) := e2.1
  rw [if_neg (lF (by simp) (by simp)), ra_ok (by omega) (by omega), hv]
  rfl
theorem cw_usual (hC : CW th w M p W) (hT : TC M ct T) (hi : i < 60) (hat : T 4 = nI i) (x : Int32) : F_Law_usual l x w ct M = some (usS x (envW W T)) := by
  have h4 : M ct 4 = nI i := (hT 4 (by omega)).trans hat
  have e7 : M w 7 = wS W 3 := CW_S hC (k := 3) (by omega) (by omega)
  have e8 : M w 8 = wS W 4 := CW_S hC (k := 4) (by omega) (by omega)
  have eg : envW W T 4 = wG W i := by
    show wG W (T 4).toNatClampNeg = _
    rw [hat, nI_clamp (by omega)]
  have e2 : envW W T 2 = T 3 := rfl
  have e7' : envW W T 7 = wS W 3 := rfl
  have e8' : envW W T 8 = wS W 4 := rfl
  unfold F_Law_usual usS
  rw [h4, ra_ok hi (by omega), CW_G hC hi, e7, e8, eg, e2, e7', e8', hT 3 (by omega)]
  split
  · rfl
  split
  · rfl
  · rfl
theorem l_tells (hz : 1000 ≤ z) (hl : isL l) (hout : ∀ c', inW w c' → ¬ (l ≤ c' ∧ c' ≤ l + 4)) (hct : inW w ct) (hf : wf c W) (hc : c < 2147483648) (hi : i < 60) (hat : T 4 = nI i) (x told : Int32) :
    ∀ (m j n : Nat) (M : mM), j + m = aN A → m < n → CL l M A → CW th w M p W → TC M ct T → ∃ M', L_Law_tells_1 z l w ct x n told (nI j) M = some ((match fi (lineP A x (envW W T)) m j with
      | some k => aF A k (envW W T)
      | none => told), M') ∧ Fr [l + 4] M M' := by
  have hout4 : ∀ c', inW w c' → c' ≠ l + 4 := fun c' h e => hout c' h (by omega)
  intro m
  induction m with
  | zero =>
    intro j n M hj hn hA hC hT
    obtain ⟨n, rfl⟩ : ∃ k, n = k + 1 := ⟨n - 1, by omega⟩
    have h16 := hA.1
    refine ⟨M, ?_, Fr_rf _ _⟩
    rw [L_Law_tells_1, hA.2.1, if_neg (lF (by omega) (by omega))]
    rfl
  | succ m ih =>
    intro j n M hj hn hA hC hT
    obtain ⟨n, rfl⟩ : ∃ k, n = k + 1 := ⟨n - 1, by omega⟩
    have hA' := hA
    obtain ⟨h16, hN, cs, hcs, hL, hlines⟩ := hA
    obtain ⟨b, e, e2, g0, g1, g2, g3, h1, h2, hd, hg⟩ := hlines j (by omega)
    have again : ∀ M1, Fr [l + 4] M M1 → ∃ M', L_Law_tells_1 z l w ct x n told (nI j + nI 1) M1 = some ((match fi (lineP A x (envW W T)) m (j + 1) with
      | some k => aF A k (envW W T)
      | none => told), M') ∧ Fr [l + 4] M M' := by
      intro M1 hF
      have hne : ∀ c', c' ≠ l + 4 → M1 c' = M c' := fun c' h => hF c' (by simpa using h)
      obtain ⟨M', e1, e2⟩ := ih (j + 1) n M1 (by omega) (by omega) (CL_congr hA' (fun c' _ h2 => hne c' (by omega))) (CW_congr hC (fun c' h => hne c' (hout4 c' h))) (fun k hk => by rw [hne ct (hout4 ct hct)]; exact hT k hk)
      exact ⟨M', by rw [nadd]; exact e1, Fr_tr hF e2⟩
    rw [L_Law_tells_1, hN, if_pos (lT (by omega) (by omega)), get_ok hN h16 (by omega) (by omega) (by omega) (by omega), ob1_ok, get_ok hN h16 (by omega) (by omega) (by omega) (by omega), ob1_ok, get_ok hN h16 (by omega) (by omega) (by omega) (by omega), ob1_ok, ob1_ok, g0, g2, g3, fi]
    by_cases hw : aW A j = x
    · rw [if_pos (decide_eq_true hw)]
      have told1 : ∀ M1, Fr [l + 4] M M1 → lineP A x (envW W T) j = true → ∃ M', (ob1 (F_Rows_get (l + 1) 5 16 (nI j) (nI 1) M1) fun v20 => ob2 (F_Law_value z l v20 (nI e) w ct M1) fun v22 M23 => some (v22, M23)) = some ((match (if lineP A x (envW W T) j = true then some j else fi (lineP A x (envW W T)) m (j + 1)) with
          | some k => aF A k (envW W T)
          | none => told), M') ∧ Fr [l + 4] M M' := by
        intro M1 hF hp
        have hne : ∀ c', c' ≠ l + 4 → M1 c' = M c' := fun c' h => hF c' (by simpa using h)
        obtain ⟨M', e1, e2'⟩ := cw_value (M := M1) (b := b) (e := e) (f := aF A j) hz hl hout4 hct hf hc hi hat (CW_congr hC (fun c' h => hne c' (hout4 c' h))) (fun k hk => by rw [hne ct (hout4 ct hct)]; exact hT k hk) hcs (by rw [hne l (by omega)]; exact hL) (by omega) (by rw [hne (l + 3) (by omega)]; exact hd)
        refine ⟨M', ?_, Fr_tr hF e2'⟩
        rw [get_ok (n := aN A) (by rw [hne (l + 1) (by omega)]; exact hN) h16 (by omega) (by omega) (by omega) (by omega), ob1_ok, hne (l + 1 + 1) (by omega)]
        have g1' : M (l + 1 + 1) (j * 5 + 1) = nI b := g1
        rw [g1', e1, ob2_ok, if_pos hp]
      cases hG : aG A j with
      | none =>
        rw [hG] at hg
        have hp : lineP A x (envW W T) j = true := by unfold lineP; rw [hG, decide_eq_true hw]; rfl
        obtain ⟨M', q1, q2⟩ := told1 M (Fr_rf _ _) hp
        have hg' : e = e2 := hg
        refine ⟨M', ?_, q2⟩
        rw [if_pos (by rw [hg']), ob2_ok, if_pos rfl]
        exact q1
      | some g =>
        rw [hG] at hg
        obtain ⟨hlt, hdg⟩ : e < e2 ∧ Den (M (l + 3)) e e2 g := hg
        obtain ⟨M1, q1, q2⟩ := cw_value (M := M) (b := e) (e := e2) (f := g) hz hl hout4 hct hf hc hi hat hC hT hcs hL (by omega) hdg
        rw [if_neg (eF (by omega) (by omega) (by omega)), q1, ob2_ok, ob2_ok]
        by_cases hz0 : g (envW W T) = nI 0
        · have hp : lineP A x (envW W T) j = false := by unfold lineP; rw [hG, decide_eq_true hw]; simp [hz0]
          rw [if_neg (fun h => absurd hz0 (of_decide_eq_true h)), hp]
          exact again M1 q2
        · have hp : lineP A x (envW W T) j = true := by unfold lineP; rw [hG, decide_eq_true hw]; simp [hz0]
          rw [if_pos (decide_eq_true hz0)]
          exact told1 M1 q2 hp
    · have hp : lineP A x (envW W T) j = false := by unfold lineP; rw [decide_eq_false hw]; rfl
      rw [if_neg (fun h => hw (of_decide_eq_true h)), ob2_ok, if_neg Bool.false_ne_true, hp]
      exact again M (Fr_rf _ _)
theorem cw_tells (hz : 1000 ≤ z) (hl : isL l) (hout : ∀ c', inW w c' → ¬ (l ≤ c' ∧ c' ≤ l + 4)) (hct : inW w ct) (hf : wf c W) (hc : c < 2147483648) (hi : i < 60) (hat : T 4 = nI i) (hA : CL l M A) (hC : CW th w M p W) (hT : TC M ct T) (x : Int32) :
    ∃ M', F_Law_tells z l x w ct M = some (tellsS A x (envW W T), M') ∧ Fr [l + 4] M M' := by
  have h16 := hA.1
  obtain ⟨M', e1, e2⟩ := l_tells hz hl hout hct hf hc hi hat x (usS x (envW W T)) (aN A) 0 z M (by omega) (by omega) hA hC hT
  refine ⟨M', ?_, e2⟩
  unfold F_Law_tells
  rw [cw_usual hC hT hi hat, ob1_ok, e1, ob2_ok]
  rfl
end S26
