/-! ===== the law tells: the model's way ===== -/
def mst (env : En) (o a : Int32) (st : List Int32) : Option (List Int32) :=
  if o = nI 0 then some (a :: st)
  else if o = nI 1 then (if inb 11 a = true then some (env a.toNatClampNeg :: st) else none)
  else if o = nI 9 then (match st with
    | x :: s => some ((nI 1 - x) :: s)
    | [] => none)
  else (match st with
    | y :: x :: s => ob1 (F_Mod_twoOf o x y) (fun v => some (v :: s))
    | _ => none)
def mev (env : En) (O A : Nat → Int32) : Nat → Nat → List Int32 → Option (List Int32)
  | 0, _, st => some st
  | m + 1, i, st => ob1 (mst env (O i) (A i) st) (fun st' => mev env O A m (i + 1) st')
def DenM (O A : Nat → Int32) (b e : Nat) (f : En → Int32) : Prop := b ≤ e ∧ ∀ env : En, mev env O A (e - b) b [] = some [f env]
theorem mst_len {env : En} {o a : Int32} {st st' : List Int32} (h : mst env o a st = some st') : st'.length ≤ st.length + 1 := by
  unfold mst at h
  split at h
  · cases h; simp
  · split at h
    · split at h
      · cases h; simp
      · cases h
    · split at h
      · split at h
        · cases h; simp only [List.length_cons]; omega
        · cases h
      · split at h
        · obtain ⟨v, -, h⟩ := ob1_some h
          cases h
          simp only [List.length_cons]
          omega
        · cases h
section S27
variable {z : Nat} {M : mM} {env : En} {A : LA}
theorem l_runs {O K : Nat → Int32} {to : Nat} (hto : to ≤ 400) :
    ∀ (m j n : Nat) (st st' : List Int32) (M : mM), mev env O K m j st = some st' → (∀ q, q < 1200 → M 324 q = O q ∧ M 325 q = K q) → (∀ q, q < 11 → M 330 q = env q) → j + m = to → SK M 331 st → st.length ≤ j → m < n →
    ∃ M', L_Mod_runs_1 z (nI 0) (nI to) n (nI st.length) (nI j) M = some (nI st'.length, M') ∧ SK M' 331 st' ∧ Fr [331] M M' := by
  intro m
  induction m with
  | zero =>
    intro j n st st' M h hK hE hj hS hl hn
    cases h
    obtain ⟨n, rfl⟩ : ∃ k, n = k + 1 := ⟨n - 1, by omega⟩
    refine ⟨M, ?_, hS, Fr_rf _ _⟩
    rw [L_Mod_runs_1, nmul, nadd, if_neg (lF (by omega) (by omega))]
  | succ m ih =>
    intro j n st st' M h hK hE hj hS hl hn
    obtain ⟨n, rfl⟩ : ∃ k, n = k + 1 := ⟨n - 1, by omega⟩
    rw [mev] at h
    obtain ⟨s1, h1, h⟩ := ob1_some h
    have hlen1 := mst_len h1
    have go : ∀ M1 : mM, Fr [331] M M1 → SK M1 331 s1 → ∃ M', L_Mod_runs_1 z (nI 0) (nI to) n (nI s1.length) (nI j + nI 1) M1 = some (nI st'.length, M') ∧ SK M' 331 st' ∧ Fr [331] M M' := by
      intro M1 hF hS1
      have hne : ∀ c', c' ≠ 331 → M1 c' = M c' := fun c' h => hF c' (by simpa using h)
      obtain ⟨M', e1, e2, e3⟩ := ih (j + 1) n s1 st' M1 h (fun q hq => by rw [hne 324 (by omega), hne 325 (by omega)]; exact hK q hq) (fun q hq => by rw [hne 330 (by omega)]; exact hE q hq) (by omega) hS1 (by omega) (by omega)
      exact ⟨M', by rw [nadd]; exact e1, e2, Fr_tr hF e3⟩
    obtain ⟨hO, hA⟩ := hK j (by omega)
    rw [L_Mod_runs_1, nmul, nadd, if_pos (lT (by omega) (by omega))]
    simp only [ra_ok (show j < 1200 by omega) (show 1200 ≤ 5000 by omega), ob1_ok, hO, hA]
    unfold mst at h1
    by_cases a0 : O j = nI 0
    · rw [if_pos a0] at h1
      cases h1
      rw [if_pos (decide_eq_true a0), ob1_ok, if_pos rfl, if_pos (decide_eq_true a0), ob1_ok, wa_ok (by omega) (by omega), ob1_ok, ob2_ok, nadd st.length 1]
      exact go _ (Fr_up (Fr_rf _ _) (by simp)) (SK_push hS)
    · rw [if_neg a0] at h1
      by_cases a1 : O j = nI 1
      · rw [if_pos a1] at h1
        by_cases a2 : inb 11 (K j) = true
        · rw [if_pos a2] at h1
          cases h1
          have e : ra M 330 11 (K j) = some (env (K j).toNatClampNeg) := by
            unfold ra
            rw [if_pos a2, hE _ (inb_ix a2).2]
          rw [if_neg (fun h => a0 (of_decide_eq_true h)), ob1_ok, if_pos (decide_eq_true a1), if_neg (fun h => a0 (of_decide_eq_true h)), e, ob1_ok, ob1_ok, wa_ok (by omega) (by omega), ob1_ok, ob2_ok, nadd st.length 1]
          exact go _ (Fr_up (Fr_rf _ _) (by simp)) (SK_push hS)
        · rw [if_neg a2] at h1
          cases h1
      · rw [if_neg a1] at h1
        rw [if_neg (fun h => a0 (of_decide_eq_true h)), ob1_ok, if_neg (fun h => a1 (of_decide_eq_true h))]
        by_cases a9 : O j = nI 9
        · rw [if_pos a9] at h1
          cases st with
          | nil => cases h1
          | cons x s =>
            cases h1
            simp only [List.length_cons] at hl hlen1 ⊢
            have e : M 331 (s.length + 1 - 1) = x := hS.1
            rw [if_pos (decide_eq_true a9), nsb (by omega), ra_ok (by omega) (by omega), ob1_ok, e, wa_ok (by omega) (by omega), ob1_ok, ob2_ok]
            refine go _ (Fr_up (Fr_rf _ _) (by simp)) ⟨?_, SK_congr hS.2 (fun q hq => up_neJ _ _ _ (by omega))⟩
            exact up_same _ _ _ _
        · rw [if_neg a9] at h1
          cases st with
          | nil => cases h1
          | cons y s =>
            cases s with
            | nil => cases h1
            | cons x s =>
              obtain ⟨v, h2, h1⟩ := ob1_some h1
              cases h1
              simp only [List.length_cons] at hl hlen1 ⊢
              have ea : M 331 (s.length + 1 + 1 - 1 - 1) = x := hS.2.1
              have eb : M 331 (s.length + 1 + 1 - 1) = y := hS.1
              rw [if_neg (fun h => a9 (of_decide_eq_true h)), nsb (a := s.length + 1 + 1) (by omega), nsb (by omega), ra_ok (by omega) (by omega), ob1_ok, ra_ok (by omega) (by omega), ob1_ok, ea, eb, h2, ob1_ok, wa_ok (by omega) (by omega), ob1_ok, ob2_ok]
              refine go _ (Fr_up (Fr_rf _ _) (by simp)) ⟨?_, SK_congr hS.2.2 (fun q hq => up_neJ _ _ _ (by omega))⟩
              exact up_same _ _ _ _
theorem mm_runs (hz : 1000 ≤ z) (hE : ∀ q, q < 11 → M 330 q = env q) {b e : Nat} {f : En → Int32} (he : e ≤ 400) (hd : DenM (M 324) (M 325) b e f) : ∃ M', F_Mod_runs z (nI 0) (nI b) (nI e) M = some (f env, M') ∧ Fr [331] M M' := by
  obtain ⟨hbe, hd⟩ := hd
  obtain ⟨M', e1, e2, e3⟩ := l_runs (z := z) (env := env) (O := M 324) (K := M 325) he (e - b) b z [] [f env] M (hd env) (fun _ _ => ⟨rfl, rfl⟩) hE (by omega) trivial (by simp) (by omega)
  refine ⟨M', ?_, e3⟩
  have hv : M' 331 0 = f env := e2.1
  have e1' : L_Mod_runs_1 z (nI 0) (nI e) z (nI 0) (nI b) M = some (nI [f env].length, M') := e1
  unfold F_Mod_runs
  rw [nmul, nadd, Nat.mul_zero, Nat.zero_add, e1', ob2_ok, ra_ok (by omega) (by omega), hv]
  rfl
def ML (M : mM) (A : LA) : Prop :=
  aN A ≤ 16 ∧ M 319 0 = nI (aN A) ∧ ∀ i, i < aN A → ∃ b e e2, M 320 i = aW A i ∧ M 321 i = nI b ∧ M 322 i = nI e ∧ M 323 i = nI e2 ∧ e ≤ e2 ∧ e2 ≤ 400 ∧ DenM (M 324) (M 325) b e (aF A i) ∧
    (match aG A i with
     | none => e = e2
     | some g => e < e2 ∧ DenM (M 324) (M 325) e e2 g)
theorem ML_congr {M M' : mM} {A : LA} (h : ML M A) (e : ∀ c, 319 ≤ c → c ≤ 325 → M' c = M c) : ML M' A := by
  unfold ML at h ⊢
  rw [e 319 (by omega) (by omega), e 320 (by omega) (by omega), e 321 (by omega) (by omega), e 322 (by omega) (by omega), e 323 (by omega) (by omega), e 324 (by omega) (by omega), e 325 (by omega) (by omega)]
  exact h
theorem l_lineOf (hz : 1000 ≤ z) (x : Int32) {kt : mM → Option (Int32 × mM)} :
    ∀ (m j n : Nat) (M : mM), j + m = aN A → m < n → ML M A → (∀ q, q < 11 → M 330 q = env q) → ∃ M', L_Mod_lineOf_1 z x kt n (nI j) M = (match fi (lineP A x env) m j with
      | some k => some (nI k, M')
      | none => kt M') ∧ Fr [331] M M' := by
  intro m
  induction m with
  | zero =>
    intro j n M hj hn hA hE
    obtain ⟨n, rfl⟩ : ∃ k, n = k + 1 := ⟨n - 1, by omega⟩
    have h16 := hA.1
    refine ⟨M, ?_, Fr_rf _ _⟩
    rw [L_Mod_lineOf_1, ra_ok (by omega) (by omega), ob1_ok, ob1_ok, hA.2.1, if_neg (fun h => lF (by omega) (by omega) (of_decide_eq_true h))]
    rfl
  | succ m ih =>
    intro j n M hj hn hA hE
    obtain ⟨n, rfl⟩ : ∃ k, n = k + 1 := ⟨n - 1, by omega⟩
    have hA' := hA
    obtain ⟨h16, hN, hlines⟩ := hA
    obtain ⟨b, e, e2, g0, g1, g2, g3, h1, h2, hd, hg⟩ := hlines j (by omega)
    have again : ∀ M1, Fr [331] M M1 → ∃ M', L_Mod_lineOf_1 z x kt n (nI j + nI 1) M1 = (match fi (lineP A x env) m (j + 1) with
      | some k => some (nI k, M')
      | none => kt M') ∧ Fr [331] M M' := by
      intro M1 hF
      have hne : ∀ c', c' ≠ 331 → M1 c' = M c' := fun c' h => hF c' (by simpa using h)
      obtain ⟨M', e1, e2⟩ := ih (j + 1) n M1 (by omega) (by omega) (ML_congr hA' (fun c' _ h2 => hne c' (by omega))) (fun q hq => by rw [hne 330 (by omega)]; exact hE q hq)
      exact ⟨M', by rw [nadd]; exact e1, Fr_tr hF e2⟩
    rw [L_Mod_lineOf_1, ra_ok (by omega) (by omega), ob1_ok, ob1_ok, hN, if_pos (decide_eq_true (lT (by omega) (by omega))), ra_ok (show j < 48 by omega) (by omega), ob1_ok, ob1_ok, g0, fi]
    by_cases hw : aW A j = x
    · rw [if_pos (decide_eq_true hw), ra_ok (show j < 48 by omega) (by omega), ob1_ok, ra_ok (show j < 48 by omega) (by omega), ob1_ok, ob1_ok, g2, g3]
      cases hG : aG A j with
      | none =>
        rw [hG] at hg
        have hg' : e = e2 := hg
        have hp : lineP A x env j = true := by unfold lineP; rw [hG, decide_eq_true hw]; rfl
        refine ⟨M, ?_, Fr_rf _ _⟩
        rw [if_pos (decide_eq_true (by rw [hg'])), ob2_ok, if_pos rfl, if_pos hp]
      | some g =>
        rw [hG] at hg
        obtain ⟨hlt, hdg⟩ : e < e2 ∧ DenM (M 324) (M 325) e e2 g := hg
        obtain ⟨M1, q1, q2⟩ := mm_runs hz hE (b := e) (e := e2) (f := g) h2 hdg
        rw [if_neg (fun h => eF (by omega) (by omega) (by omega) (of_decide_eq_true h)), ob1_ok, ob1_ok, q1, ob2_ok, ob2_ok]
        by_cases hz0 : g env = nI 0
        · have hp : lineP A x env j = false := by unfold lineP; rw [hG, decide_eq_true hw]; simp [hz0]
          rw [if_neg (fun h => absurd hz0 (of_decide_eq_true h)), hp]
          exact again M1 q2
        · have hp : lineP A x env j = true := by unfold lineP; rw [hG, decide_eq_true hw]; simp [hz0]
          rw [if_pos (decide_eq_true hz0), if_pos hp]
          exact ⟨M1, rfl, q2⟩
    · have hp : lineP A x env j = false := by unfold lineP; rw [decide_eq_false hw]; rfl
      rw [if_neg (fun h => hw (of_decide_eq_true h)), ob2_ok, if_neg Bool.false_ne_true, hp]
      exact again M (Fr_rf _ _)
theorem clamp_eq {v : Int32} {m : Nat} (hm : m < 2147483648) : F_Mod_within v (nI 0) (nI m) = F_Math_max (nI 0) (F_Math_min v (nI m)) := by
  have e0 : (nI 0).toInt = 0 := rfl
  have em := nI_toInt hm
  unfold F_Mod_within F_Math_max F_Math_min
  by_cases h1 : v < nI 0
  · have h1' := h1
    rw [Int32.lt_iff_toInt_lt, e0] at h1'
    have h2 : ¬ nI m < v := by rw [Int32.lt_iff_toInt_lt, em]; omega
    have h3 : ¬ nI 0 < v := by rw [Int32.lt_iff_toInt_lt, e0]; omega
    rw [if_pos h1, if_neg h2, if_neg h3]
  · rw [if_neg h1]
    have h1' := h1
    rw [Int32.lt_iff_toInt_lt, e0] at h1'
    by_cases h2 : nI m < v
    · rw [if_pos h2]
      exact (max0 hm).symm
    · rw [if_neg h2]
      by_cases h3 : nI 0 < v
      · rw [if_pos h3]
      · rw [if_neg h3]
        rw [Int32.lt_iff_toInt_lt, e0] at h3
        apply Int32.toInt_inj.mp
        rw [e0]
        omega
theorem mm_lawTells (hz : 1000 ≤ z) (hA : ML M A) (hE : ∀ q, q < 11 → M 330 q = env q) (x : Int32) {m : Nat} (hm : (if x = nI 2 then nI 9 else nI 1000) = nI m) (hm2 : m < 2147483648) : ∃ M', F_Mod_lawTells z x (usS x env) (nI m) M = some (tellsS A x env, M') ∧ Fr [331] M M' := by
  have h16 := hA.1
  obtain ⟨M1, e1, e2⟩ := l_lineOf (z := z) hz x (kt := fun (M82 : mM) => some ((-1), M82)) (aN A) 0 z M (by omega) (by omega) hA hE
  have hne : ∀ c', c' ≠ 331 → M1 c' = M c' := fun c' h => e2 c' (by simpa using h)
  unfold F_Mod_lawTells F_Mod_lineOf
  rw [e1]
  unfold tellsS tellV
  rw [hm]
  cases hf : fi (lineP A x env) (aN A) 0 with
  | none =>
    refine ⟨M1, ?_, e2⟩
    show ob2 (some ((-1 : Int32), M1)) _ = _
    rw [ob2_ok, if_pos rfl, ob2_ok, clamp_eq hm2]
  | some k =>
    obtain ⟨-, hk, -, -⟩ := fi_some hf
    obtain ⟨b, e, e2', g0, g1, g2, g3, h1, h2, hd, hg⟩ := hA.2.2 k (by omega)
    obtain ⟨M2, q1, q2⟩ := mm_runs (M := M1) hz (env := env) (fun q hq => by rw [hne 330 (by omega)]; exact hE q hq) (b := b) (e := e) (f := aF A k) (by omega) (by rw [hne 324 (by omega), hne 325 (by omega)]; exact hd)
    refine ⟨M2, ?_, Fr_tr e2 q2⟩
    show ob2 (some (nI k, M1)) _ = _
    rw [ob2_ok, if_neg (mF (by omega)), ra_ok (by omega) (by omega), ob1_ok, ra_ok (by omega) (by omega), ob1_ok, hne 321 (by omega), hne 322 (by omega), g1, g2, q1, ob2_ok, ob2_ok, clamp_eq hm2]
end S27
