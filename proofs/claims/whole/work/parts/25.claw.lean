/-! ===== the law: what a code says, the class's way ===== -/
abbrev En : Type := Nat → Int32
def vr (env : En) (w : Int32) : Int32 := if w = nI 7 then env 0 else if w = nI 8 then env 1 else if w = nI 9 then env 2 else if w = nI 10 then env 3 else if w = nI 11 then env 4 else if w = nI 12 then env 5 else if w = nI 13 then env 6 else if w = nI 14 then env 7 else if w = nI 15 then env 8 else if w = nI 16 then env 9 else env 10
def cst (env : En) (c : Int32) (st : List Int32) : Option (List Int32) :=
  if c < nI 11000 then (if st.length < 64 then some ((if c < nI 10000 then c else vr env (c - nI 10000)) :: st) else none)
  else if ¬ c < nI 20000 ∨ c = nI 11008 then (match st with
    | a :: s => ob1 (F_Law_changed c a) (fun v => some (v :: s))
    | [] => none)
  else (match st with
    | b :: a :: s => some (F_Law_joined c a b :: s)
    | _ => none)
def cev (env : En) (K : Nat → Int32) : Nat → Nat → List Int32 → Option (List Int32)
  | 0, _, st => some st
  | m + 1, i, st => ob1 (cst env (K i) st) (fun st' => cev env K m (i + 1) st')
/-- the stack's row holds a list, the top at its end -/
def SK (M : mM) (s : Nat) : List Int32 → Prop
  | [] => True
  | v :: r => M s r.length = v ∧ SK M s r
theorem SK_congr {M M' : mM} {s : Nat} : ∀ {st : List Int32}, SK M s st → (∀ j, j < st.length → M' s j = M s j) → SK M' s st := by
  intro st
  induction st with
  | nil => intro _ _; trivial
  | cons v r ih =>
    intro h e
    refine ⟨(e _ (by simp)).trans h.1, ih h.2 (fun j hj => e j ?_)⟩
    simp only [List.length_cons]
    omega
theorem SK_push {M : mM} {s : Nat} {st : List Int32} {v : Int32} (h : SK M s st) : SK (up M s st.length v) s (v :: st) :=
  ⟨up_same _ _ _ _, SK_congr h (fun j hj => up_neJ _ _ _ (by omega))⟩
def envW (W : Wd) (T : Nat → Int32) : En := fun k => if k = 0 then T 1 else if k = 1 then T 2 else if k = 2 then T 3 else if k = 3 then T 4 else if k = 4 then wG W (T 4).toNatClampNeg else if k = 5 then T 5 else if k = 6 then T 6 else if k = 7 then wS W 3 else if k = 8 then wS W 4 else if k = 9 then wNr W (T 4) else wS W 0
/-- a Thing's cell holds seven numbers -/
def TC (M : mM) (c : Nat) (T : Nat → Int32) : Prop := ∀ k, k < 7 → M c k = T k
section S25
variable {th : Bool} {z w l ct : Nat} {M : mM} {p : Nat → Nat} {W : Wd} {c : Nat} {T : Nat → Int32} {i : Nat}
theorem cw_var (hC : CW th w M p W) (hf : wf c W) (hc : c < 2147483648) (hT : TC M ct T) (hi : i < 60) (hat : T 4 = nI i) (x : Int32) : F_Law_variable x w ct M = some (vr (envW W T) x) := by
  have h4 : M ct 4 = nI i := (hT 4 (by omega)).trans hat
  have e7 : M w 7 = wS W 3 := CW_S hC (k := 3) (by omega) (by omega)
  have e8 : M w 8 = wS W 4 := CW_S hC (k := 4) (by omega) (by omega)
  have e12 : M w 12 = wS W 0 := CW_S hC (k := 0) (by omega) (by omega)
  unfold F_Law_variable vr
  split
  · rw [hT 1 (by omega)]; rfl
  split
  · rw [hT 2 (by omega)]; rfl
  split
  · rw [hT 3 (by omega)]; rfl
  split
  · rw [hT 4 (by omega)]; rfl
  split
  · rw [h4, ra_ok hi (by omega), ob1_ok, CW_G hC hi]
    show _ = some (wG W (T 4).toNatClampNeg)
    rw [hat, nI_clamp (by omega)]
  split
  · rw [hT 5 (by omega)]; rfl
  split
  · rw [hT 6 (by omega)]; rfl
  split
  · rw [e7]; rfl
  split
  · rw [e8]; rfl
  split
  · rw [cw_near hC hf hc, ob1_ok, hT 4 (by omega)]; rfl
  · rw [e12]; rfl
theorem cst_len {env : En} {x : Int32} {st st' : List Int32} (h : cst env x st = some st') (h64 : st.length ≤ 64) : st'.length ≤ 64 := by
  unfold cst at h
  split at h
  · split at h
    · cases h
      simp only [List.length_cons]
      omega
    · cases h
  · split at h
    · split at h
      · obtain ⟨v, -, h⟩ := ob1_some h
        cases h
        simpa using h64
      · cases h
    · split at h
      · cases h
        simp only [List.length_cons] at h64 ⊢
        omega
      · cases h
theorem l_value (hl : isL l) (hout : ∀ c', inW w c' → c' ≠ l + 4) (hct : inW w ct) (hf : wf c W) (hc : c < 2147483648) (hi : i < 60) (hat : T 4 = nI i) {K : Nat → Int32} {to cs : Nat} (hto : to ≤ cs) (hcs : cs ≤ 400) {kt : Int32 → mM → Option (Int32 × mM)} :
    ∀ (m j n : Nat) (st st' : List Int32) (M : mM), CW th w M p W → TC M ct T → cev (envW W T) K m j st = some st' → (∀ q, q < 400 → M (l + 3) q = K q) → j + m = to → M l 2 = nI cs → SK M (l + 4) st → st.length ≤ 64 → m < n →
    ∃ M', L_Law_value_1 z l w ct (nI to) kt n (nI st.length) (nI j) M = kt (nI st'.length) M' ∧ SK M' (l + 4) st' ∧ Fr [l + 4] M M' ∧ st'.length ≤ 64 := by
  have hlne : l ≠ l + 4 := by omega
  intro m
  induction m with
  | zero =>
    intro j n st st' M hC hT h hK hj hL hS h64 hn
    cases h
    obtain ⟨n, rfl⟩ : ∃ k, n = k + 1 := ⟨n - 1, by omega⟩
    refine ⟨M, ?_, hS, Fr_rf _ _, h64⟩
    rw [L_Law_value_1, if_neg (fun h => lF (by omega) (by omega) h.1)]
  | succ m ih =>
    intro j n st st' M hC hT h hK hj hL hS h64 hn
    obtain ⟨n, rfl⟩ : ∃ k, n = k + 1 := ⟨n - 1, by omega⟩
    rw [cev] at h
    obtain ⟨s1, h1, h⟩ := ob1_some h
    have hlen1 := cst_len h1 h64
    -- what is left, from a changed memory
    have go : ∀ M1 : mM, Fr [l + 4] M M1 → SK M1 (l + 4) s1 → ∃ M', L_Law_value_1 z l w ct (nI to) kt n (nI s1.length) (nI j + nI 1) M1 = kt (nI st'.length) M' ∧ SK M' (l + 4) st' ∧ Fr [l + 4] M M' ∧ st'.length ≤ 64 := by
      intro M1 hF hS1
      have hne : ∀ c', c' ≠ l + 4 → M1 c' = M c' := fun c' h => hF c' (by simpa using h)
      have hC1 : CW th w M1 p W := CW_congr hC (fun c' h => hne c' (hout c' h))
      have hT1 : TC M1 ct T := fun k hk => by rw [hne ct (hout ct hct)]; exact hT k hk
      obtain ⟨M', e1, e2, e3, e4⟩ := ih (j + 1) n s1 st' M1 hC1 hT1 h (fun q hq => by rw [hne _ (by omega)]; exact hK q hq) (by omega) (by rw [hne _ hlne]; exact hL) hS1 hlen1 (by omega)
      refine ⟨M', ?_, e2, Fr_tr hF e3, e4⟩
      rw [nadd]
      exact e1
    rw [L_Law_value_1, if_pos ⟨lT (by omega) (by omega), by rw [hL]; exact lT (by omega) (by omega)⟩, ra_ok (by omega) (by omega), ob1_ok, hK j (by omega)]
    rw [jn_eq]
    unfold cst at h1
    by_cases a1 : K j < nI 11000
    · rw [if_pos a1] at h1 ⊢
      by_cases a2 : st.length < 64
      · rw [if_pos a2] at h1
        cases h1
        rw [if_neg (fun h => h (lT a2 (by omega)))]
        have ev : (ob1 (if K j < nI 10000 then some (K j) else ob1 (F_Law_variable (K j - nI 10000) w ct M) fun v71 => some v71) fun v67 => ob1 (wa M (l + 4) 64 (nI st.length) v67) fun M70 => (fun (top_47 : Int32) (M48 : mM) => L_Law_value_1 z l w ct (nI to) kt n top_47 (nI j + nI 1) M48) (nI st.length + nI 1) M70) = L_Law_value_1 z l w ct (nI to) kt n (nI (st.length + 1)) (nI j + nI 1) (up M (l + 4) st.length (if K j < nI 10000 then K j else vr (envW W T) (K j - nI 10000))) := by
          by_cases a3 : K j < nI 10000
          · rw [if_pos a3, if_pos a3, ob1_ok, wa_ok a2 (by omega), ob1_ok, nadd st.length 1]
          · rw [if_neg a3, if_neg a3, cw_var hC hf hc hT hi hat, ob1_ok, ob1_ok, wa_ok a2 (by omega), ob1_ok, nadd st.length 1]
        rw [ev]
        exact go _ (Fr_up (Fr_rf _ _) (by simp)) (SK_push hS)
      · rw [if_neg a2] at h1
        cases h1
    · rw [if_neg a1] at h1 ⊢
      by_cases a2 : ¬ K j < nI 20000 ∨ K j = nI 11008
      · rw [if_pos a2] at h1 ⊢
        cases st with
        | nil => cases h1
        | cons a s =>
          obtain ⟨v, h2, h1⟩ := ob1_some h1
          cases h1
          simp only [List.length_cons] at h64 hlen1 ⊢
          rw [if_neg (lF (by omega) (by omega)), nsb (by omega), ra_ok (by omega) (by omega), ob1_ok]
          have e : M (l + 4) (s.length + 1 - 1) = a := hS.1
          rw [e, h2, ob1_ok, wa_ok (by omega) (by omega), ob1_ok]
          refine go _ (Fr_up (Fr_rf _ _) (by simp)) ⟨?_, SK_congr hS.2 (fun q hq => up_neJ _ _ _ (by omega))⟩
          exact up_same _ _ _ _
      · rw [if_neg a2] at h1 ⊢
        cases st with
        | nil => cases h1
        | cons b s =>
          cases s with
          | nil => cases h1
          | cons a s =>
            cases h1
            simp only [List.length_cons] at h64 hlen1 ⊢
            have hm : nI (s.length + 1 + 1) + -1 = nI (s.length + 1) := by
              rw [← nadd (s.length + 1) 1, Int32.add_assoc]
              have : nI 1 + -1 = 0 := by decide
              rw [this, Int32.add_zero]
            rw [if_neg (lF (by omega) (by omega)), hm, nsb (by omega), ra_ok (by omega) (by omega), ob1_ok, ra_ok (by omega) (by omega), ob1_ok, wa_ok (by omega) (by omega), ob1_ok]
            have ea : M (l + 4) (s.length + 1 - 1) = a := hS.2.1
            have eb : M (l + 4) (s.length + 1) = b := hS.1
            rw [ea, eb]
            refine go _ (Fr_up (Fr_rf _ _) (by simp)) ⟨?_, SK_congr hS.2.2 (fun q hq => up_neJ _ _ _ (by omega))⟩
            exact up_same _ _ _ _
end S25
