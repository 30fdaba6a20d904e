/-! ===== the memory at the start, and that all stands well there ===== -/
def rowE (e : mE) : Nat → Int32 := match e with
  | .inl (_, _, g) => g
  | .inr (_, fs) => fun i => match fs[i]? with
    | some (.int x) => x
    | _ => 0
def vEq (a b : Value) : Bool := match a, b with
  | .ref x, .ref y => decide (x = y)
  | .int x, .int y => decide (x = y)
  | _, _ => false
def oFit (o : Option Value) (v : Value) : Bool := match o with
  | some w => vEq w v
  | none => (match v with
    | .int _ => true
    | _ => false)
def slotFit : List (Option Value) → List Value → Bool
  | [], [] => true
  | o :: ss, v :: fs => oFit o v && slotFit ss fs
  | _, _ => false
def fitE (k : mK) (e : mE) : Bool := match e with
  | .inl (t, m, _) => (match k with
    | (0, n, _) => decide (t = 0) && decide (n = m)
    | (1, n, _) => decide (t = 1) && decide (n = m)
    | (2, n, _) => decide (t = 2) && decide (n = m)
    | _ => false)
  | .inr (u, fs) => (match k with
    | (t + 3, _, ss) => decide (t = u) && slotFit ss fs
    | _ => false)
def fitAll : List mK → List mE → Bool
  | [], [] => true
  | k :: ks, e :: es => fitE k e && fitAll ks es
  | _, _ => false
theorem vEq_eq {a b : Value} (h : vEq a b = true) : a = b := by
  cases a <;> cases b <;> first | exact congrArg Value.ref (of_decide_eq_true h) | exact congrArg Value.int (of_decide_eq_true h) | exact absurd h Bool.false_ne_true
theorem slotFit_eq : ∀ (ss : List (Option Value)) (fs : List Value) (row : Nat → Int32), (∀ i x, fs[i]? = some (.int x) → row i = x) → slotFit ss fs = true → ss.mapIdx (fun i o => o.getD (.int (row i))) = fs := by
  intro ss
  induction ss with
  | nil =>
    intro fs row _ h
    cases fs with
    | nil => rfl
    | cons v fs => exact absurd h Bool.false_ne_true
  | cons o ss ih =>
    intro fs row hr h
    cases fs with
    | nil => exact absurd h Bool.false_ne_true
    | cons v fs =>
      have h' : (oFit o v && slotFit ss fs) = true := h
      rw [Bool.and_eq_true] at h'
      obtain ⟨h1, h2⟩ := h'
      have h3 := ih fs (fun i => row (i + 1)) (fun i x e => hr (i + 1) x e) h2
      rw [List.mapIdx_cons, h3]
      have h4 : o.getD (.int (row 0)) = v := by
        cases o with
        | some w => exact vEq_eq h1
        | none =>
          cases v with
          | int x => exact congrArg Value.int (hr 0 x rfl)
          | _ => exact absurd h1 Bool.false_ne_true
      rw [h4]
theorem fitE_eq {k : mK} {e : mE} (h : fitE k e = true) : mkE k (rowE e) = e := by
  obtain ⟨t, n, ss⟩ := k
  cases e with
  | inl q =>
    obtain ⟨t', m, g⟩ := q
    match t, h with
    | 0, h =>
      have h' : (decide (t' = 0) && decide (n = m)) = true := h
      rw [Bool.and_eq_true] at h'
      have a := of_decide_eq_true h'.1
      have b := of_decide_eq_true h'.2
      subst a; subst b; rfl
    | 1, h =>
      have h' : (decide (t' = 1) && decide (n = m)) = true := h
      rw [Bool.and_eq_true] at h'
      have a := of_decide_eq_true h'.1
      have b := of_decide_eq_true h'.2
      subst a; subst b; rfl
    | 2, h =>
      have h' : (decide (t' = 2) && decide (n = m)) = true := h
      rw [Bool.and_eq_true] at h'
      have a := of_decide_eq_true h'.1
      have b := of_decide_eq_true h'.2
      subst a; subst b; rfl
    | t + 3, h => exact absurd h Bool.false_ne_true
  | inr q =>
    obtain ⟨u, fs⟩ := q
    match t, h with
    | 0, h => exact absurd h Bool.false_ne_true
    | 1, h => exact absurd h Bool.false_ne_true
    | 2, h => exact absurd h Bool.false_ne_true
    | t + 3, h =>
      have h' : (decide (t = u) && slotFit ss fs) = true := h
      rw [Bool.and_eq_true] at h'
      have a := of_decide_eq_true h'.1
      subst a
      have h3 := slotFit_eq ss fs (rowE (.inr (t, fs))) (fun i x e => by
        show (match fs[i]? with
          | some (.int x) => x
          | _ => 0) = x
        rw [e]) h'.2
      show (Sum.inr (t, ss.mapIdx (fun i o => o.getD (.int (rowE (.inr (t, fs)) i)))) : mE) = _
      rw [h3]
theorem fitAll_at : ∀ (ks : List mK) (es : List mE), fitAll ks es = true → ∀ c : Nat, (ks[c]? = none ∧ es[c]? = none) ∨ ∃ k e, ks[c]? = some k ∧ es[c]? = some e ∧ fitE k e = true := by
  intro ks
  induction ks with
  | nil =>
    intro es h c
    cases es with
    | nil => exact Or.inl ⟨rfl, rfl⟩
    | cons e es => exact absurd h Bool.false_ne_true
  | cons k ks ih =>
    intro es h c
    cases es with
    | nil => exact absurd h Bool.false_ne_true
    | cons e es =>
      have h' : (fitE k e && fitAll ks es) = true := h
      rw [Bool.and_eq_true] at h'
      cases c with
      | zero => exact Or.inr ⟨k, e, rfl, rfl, h'.1⟩
      | succ c => exact ih es h'.2 c
def B0 : mH := bk_Rec 0 ++ bk_Mod 312
def M0 : mM := fun c => match B0[c]? with
  | some e => rowE e
  | none => fun _ => 0
set_option maxRecDepth 100000 in
theorem B0_fit : fitAll SH B0 = true := by decide +kernel
theorem start_lay : lay M0 = B0 := by
  apply List.ext_getElem?
  intro c
  rw [lay, List.getElem?_mapIdx]
  rcases fitAll_at SH B0 B0_fit c with ⟨h1, h2⟩ | ⟨k, e, h1, h2, h3⟩
  · rw [h1, h2]; rfl
  · have h4 : M0 c = rowE e := by
      unfold M0
      rw [h2]
    rw [h1, h2, Option.map_some, h4, fitE_eq h3]
def pst (w t : Nat) : Nat := w + 7 + t
set_option maxRecDepth 100000 in
theorem M0_T : ∀ w ∈ ([1, 50, 109, 150, 177, 204, 231, 258, 285] : List Nat), ∀ t, t < 20 → M0 (w + 4) t = nI (pst w t) := by decide +kernel
set_option maxRecDepth 100000 in
theorem M0_W : (∀ k, k < 13 → 5 ≤ k → M0 1 k = nI 0) ∧ (∀ i, i < 60 → M0 2 i = nI 50) ∧ (∀ i, i < 60 → M0 3 i = nI 0) ∧ (∀ i, i < 60 → M0 4 i = -1) ∧ M0 6 3 = nI 0 := by decide +kernel
set_option maxRecDepth 100000 in
theorem M0_C : M0 0 7 = nI 0 ∧ M0 0 6 = nI 0 ∧ (∀ i, i < 6 → M0 99 i = nI (150 + 27 * i)) ∧ M0 0 4 = bI false ∧ M0 29 2 = nI 0 ∧ (∀ r ∈ ([30, 34, 36, 38, 40, 42, 44, 46, 48] : List Nat), M0 r 3 = nI 0) ∧ M0 100 1 = nI 0 ∧ M0 100 2 = nI 0 ∧ M0 100 3 = -1 := by decide +kernel
set_option maxRecDepth 100000 in
theorem M0_M : (∀ k, k < 270 → M0 313 k = nI 0) ∧ (∀ j ∈ ([3, 8, 28, 30, 32, 34, 39, 42, 45] : List Nat), M0 312 j = nI 0) ∧ M0 312 5 = bI false ∧ M0 312 53 = bI false ∧ M0 312 29 = -1 ∧ M0 319 0 = nI 0 ∧ (∀ s, s < 12 → M0 329 s = nI 0) ∧ M0 338 0 = nI 0 ∧ M0 338 1 = nI 0 ∧ (∀ s, s < 8 → M0 339 s = nI 0 ∧ M0 339 (8 + s) = nI 0) := by decide +kernel
set_option maxRecDepth 100000 in
theorem M0_K : ∀ j, j < 143 → M0 318 j = nI (wTab.getD j 0) := by decide +kernel
theorem TP_st {w : Nat} (h : w ∈ ([1, 50, 109, 150, 177, 204, 231, 258, 285] : List Nat)) : TP w M0 (pst w) := by
  intro t ht
  refine ⟨⟨?_, ?_⟩, M0_T w h t ht, fun s hs e => ?_⟩
  · unfold pst; omega
  · unfold pst; omega
  · unfold pst at e; omega
def W0 : Wd := mkW (fun _ => nI 0) (fun _ => nI 50) (fun _ => nI 0) (fun _ _ => nI 0) 0 (fun _ _ => nI 0) 0
def P0 : Ps := (0, fun _ => W0)
def A0 : LA := (0, fun _ => nI 0, fun _ _ => nI 0, fun _ => none)
def S0 : Rw := (0, fun _ _ => nI 0)
def T0 : Tx := (S0, S0, S0, S0, S0, S0)
theorem wf_0 : wf 0 W0 := by
  refine ⟨Nat.zero_le _, Nat.zero_le _, fun t ht => absurd ht (Nat.not_lt_zero t), fun s t hs => absurd hs (Nat.not_lt_zero s), fun s t hs => absurd hs (Nat.not_lt_zero s), ⟨0, Nat.le_refl _, rfl, fun t ht => absurd ht (Nat.not_lt_zero t)⟩, fun t ht => absurd ht (Nat.not_lt_zero t), fun i _ => ⟨50, by decide, rfl⟩⟩
theorem CW_0 : CW false 1 M0 (pst 1) W0 := by
  obtain ⟨h1, h2, h3, h4, h5⟩ := M0_W
  refine ⟨⟨TP_st (by simp), Nat.zero_le _⟩, fun k hk _ => ?_, h1 5 (by decide) (by decide), h2, h3, fun i hi => ?_, fun t k ht => absurd ht (Nat.not_lt_zero t), ⟨0, Nat.zero_le _, h5⟩, fun _ => ⟨h5, fun j k hj => absurd hj (Nat.not_lt_zero j)⟩⟩
  · refine h1 (cS k) ?_ ?_
    · unfold cS; repeat' split
      all_goals omega
    · unfold cS; repeat' split
      all_goals omega
  · exact (h4 i hi).trans rfl
theorem RM_0 : RM M0 W0 := by
  obtain ⟨h1, -⟩ := M0_M
  refine ⟨fun k hk _ => h1 k (by omega), h1 2 (by omega), h1 8 (by omega), fun i hi => (h1 _ (by omega)).trans (show nI 0 = nI 50 - nI 50 by decide), fun i hi => h1 _ (by omega), fun t k ht => absurd ht (Nat.not_lt_zero t), fun j k hj => absurd hj (Nat.not_lt_zero j)⟩
theorem Wo_0 : Wo 0 M0 M0 W0 P0 := by
  obtain ⟨a1, a2, a3, -⟩ := M0_C
  obtain ⟨-, b1, b2, -⟩ := M0_M
  refine ⟨⟨wf_0, fun k hk => absurd hk (Nat.not_lt_zero k), fun k hk => absurd hk (Nat.not_lt_zero k), fun j k _ hk => absurd hk (Nat.not_lt_zero k)⟩, ⟨⟨_, CW_0⟩, 0, Nat.zero_le _, by decide, a1, a2, fun i hi => ⟨a3 i hi, _, TP_st ?_⟩, fun k hk => absurd hk (Nat.not_lt_zero k)⟩, ⟨RM_0, Nat.zero_le _, b1 3 (by simp), fun k hk => absurd hk (Nat.not_lt_zero k)⟩, b2⟩
  simp only [List.mem_cons, List.not_mem_nil, or_false]
  omega
theorem RwG_st {r wd : Nat} (h : M0 r 3 = nI 0) : RwG r wd M0 S0 := ⟨h, fun j k hj => absurd hj (Nat.not_lt_zero j)⟩
theorem KT_0 : KT 28 M0 A0 S0 S0 T0 := by
  obtain ⟨-, -, -, -, a5, a6, -⟩ := M0_C
  refine ⟨⟨Nat.zero_le _, a6 30 (by simp), 0, Nat.zero_le _, a5, fun i hi => absurd hi (Nat.not_lt_zero i)⟩, ⟨a6 36 (by simp), fun j hj => absurd hj (Nat.not_lt_zero j)⟩, ⟨a6 34 (by simp), fun j k hj => absurd hj (Nat.not_lt_zero j)⟩, ⟨a6 38 (by simp), fun j k hj => absurd hj (Nat.not_lt_zero j)⟩, RwG_st (a6 40 (by simp)), RwG_st (a6 42 (by simp)), RwG_st (a6 44 (by simp)), RwG_st (a6 46 (by simp)), RwG_st (a6 48 (by simp))⟩
theorem KM_0 : KM M0 A0 S0 S0 T0 := by
  obtain ⟨-, b1, -, -, -, b5, b6, b7, b8, b9⟩ := M0_M
  refine ⟨⟨Nat.zero_le _, b5, fun i hi => absurd hi (Nat.not_lt_zero i)⟩, ⟨b1 32 (by simp), fun j k hj => absurd hj (Nat.not_lt_zero j)⟩, ⟨b1 30 (by simp), fun j k hj => absurd hj (Nat.not_lt_zero j)⟩, ⟨b1 34 (by simp), fun s hs => b6 s hs⟩, ⟨b1 39 (by simp), fun j hj => absurd hj (Nat.not_lt_zero j)⟩, ⟨b1 42 (by simp), fun j hj => absurd hj (Nat.not_lt_zero j)⟩, ⟨b1 45 (by simp), fun j hj => absurd hj (Nat.not_lt_zero j)⟩, ⟨b7, fun s hs => (b9 s hs).1⟩, ⟨b8, fun s hs => (b9 s hs).2⟩⟩
theorem okX_st {m w : Nat} {ok : (Nat → Int32) → Prop} : okX m w ok S0 := ⟨Nat.zero_le _, fun j hj => absurd hj (Nat.not_lt_zero j)⟩
theorem okK_0 : okK S0 S0 T0 := ⟨⟨Nat.zero_le _, fun j hj => absurd hj (Nat.not_lt_zero j)⟩, ⟨Nat.zero_le _, fun j hj => absurd hj (Nat.not_lt_zero j)⟩, okX_st, okX_st, okX_st, okX_st, okX_st, okX_st⟩
theorem Iv_0 : Iv 0 M0 M0 := by
  obtain ⟨-, -, -, a4, -, -, a7, a8, a9⟩ := M0_C
  obtain ⟨-, b1, -, b3, b4, -⟩ := M0_M
  refine ⟨W0, P0, A0, S0, S0, T0, Wo_0, ⟨KT_0, KM_0, okK_0⟩, Or.inl ⟨a4, b3, _, TP_st (by simp)⟩, ⟨_, TP_st (by simp)⟩, ⟨0, Nat.zero_le _, a7, b1 8 (by simp), fun j hj => absurd hj (Nat.not_lt_zero j)⟩, a8.trans (b1 28 (by simp)).symm, a9.trans b4.symm, M0_K⟩
