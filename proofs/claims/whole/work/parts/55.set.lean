/-! ===== what is done by hand: set, state, undo, both ways ===== -/
section S55
variable {z r : Nat} {M N : mM} {p q : Nat → Nat} {W : Wd} {P : Ps} {c : Nat}
theorem IA_forget {W' : Wd} (hw : wf c W') : IA (c + 1000) W' (0, P.2) := ⟨wf_mono hw (by omega), fun k hk => absurd hk (Nat.not_lt_zero k), fun k hk => absurd hk (Nat.not_lt_zero k), fun j k _ hk => absurd hk (Nat.not_lt_zero k)⟩
theorem PC_forget (hP : PC M r P) {M1 : mM} (e0 : ∀ j, j ≠ 6 → j ≠ 7 → M1 0 j = M 0 j) (e6 : M1 0 6 = M 0 6) (e7 : M1 0 7 = nI 0) (e : ∀ c', ¬ inW 1 c' → c' ≠ 0 → M1 c' = M c') : PC M1 r (0, P.2) := by
  obtain ⟨h1, h2, h3, h4, h5, h6⟩ := hP
  refine ⟨Nat.zero_le _, h2, e7, e6.trans h4, fun i hi => ?_, fun k hk => absurd hk (Nat.not_lt_zero k)⟩
  obtain ⟨h7, p, h8⟩ := h5 i hi
  exact ⟨by rw [e 99 (by unfold inW; omega) (by omega)]; exact h7, p, TP_cg h8 (e _ (by unfold inW; omega) (by omega))⟩
theorem PM_forget {N1 : mM} (e : N1 312 3 = nI 0) : PM N1 (0, P.2) := ⟨Nat.zero_le _, e, fun k hk => absurd hk (Nat.not_lt_zero k)⟩
/-- the common part: the world is changed at once and the kept ones are forgotten -/
theorem set_end (hIC : IC M W P) (hIM : IM N W P) {W' : Wd} (hw : wf c W') {M1 N1 : mM} {p' : Nat → Nat} (hC : CW false 1 M1 p' W') (hM : ∀ c', ¬ inW 1 c' → M1 c' = M c') (hR : RM N1 W') (hN : Fr [313] N N1) :
    OK5 c M (up M1 0 7 (nI 0)) N (up N1 312 3 (nI 0)) := by
  obtain ⟨-, r, hP⟩ := hIC
  have e0 : M1 0 = M 0 := hM 0 (by unfold inW; omega)
  have n1 : ∀ c', c' ≠ 0 → up M1 0 7 (nI 0) c' = M1 c' := fun c' h => by
    funext j
    exact up_neC _ _ _ _ h
  have n2 : ∀ c', c' ≠ 312 → up N1 312 3 (nI 0) c' = N1 c' := fun c' h => by
    funext j
    exact up_neC _ _ _ _ h
  refine ⟨W', (0, P.2), IA_forget hw, ⟨⟨p', CW_congr hC (fun c' h => n1 c' (by unfold inW at h; omega))⟩, r, PC_forget hP (fun j h1 h2 => ?_) ?_ (up_same _ _ _ _) (fun c' h1 h2 => by rw [n1 c' h2, hM c' h1])⟩, ⟨RM_congr (n2 313 (by omega)) (n2 316 (by omega)) hR, PM_forget (up_same _ _ _ _)⟩, ⟨fun c' h1 h2 h3 h4 => ?_, fun j h1 h2 => ?_⟩, fun c' h => ?_, fun j h => ?_⟩
  · rw [up_neJ _ _ _ h2, e0]
  · rw [up_neJ _ _ _ (by omega), e0]
  · rw [n1 c' h1, hM c' h2]
  · rw [up_neJ _ _ _ h2, e0]
  · simp only [List.mem_cons, List.not_mem_nil, or_false] at h
    rw [n2 c' (by omega), hN c' (by simp only [List.mem_cons, List.not_mem_nil, or_false]; omega)]
  · rw [up_neJ _ _ _ h, hN 312 (by simp)]
theorem b_state (hI : IA c W P) (hIC : IC M W P) (hIM : IM N W P) (v : Int32) :
    ∃ b M' N', F_Rec_state v M = some (b, M') ∧ F_Mod_state v N = some (b, N') ∧ OK5 c M M' N N' := by
  obtain ⟨⟨p, hC⟩, r, hP⟩ := id hIC
  obtain ⟨hR, hPM⟩ := id hIM
  have e1 : M 1 6 = wS W 1 := CW_S hC (k := 1) (by omega) (by omega)
  have e2 : N 313 1 = wS W 1 := RM_S hR (by omega) (by omega)
  have C1 : CW false 1 (up M 1 6 v) p (wSetS W 1 v) := CW_setS (k := 1) hC (by omega) (by omega)
  have R1 : RM (up N 313 1 v) (wSetS W 1 v) := RM_setS hR (by omega) (by omega)
  refine ⟨wS W 1, up (up M 1 6 v) 0 7 (nI 0), up (up N 313 1 v) 312 3 (nI 0), ?_, ?_, set_end hIC hIM (wf_setS hI.1 (by omega)) C1 (fun c' h => ?_) R1 (Fr_up (Fr_rf _ _) (by simp))⟩
  · unfold F_Rec_state F_Rec_forget
    rw [ob1_ok, ob1_ok, ob1_ok, e1]
  · unfold F_Mod_state
    rw [ra_ok (by omega) (by omega), ob1_ok, wa_ok (by omega) (by omega), ob1_ok, ob1_ok, e2]
  · funext j
    unfold inW at h
    exact up_neC _ _ _ _ (by omega)
theorem b_undo (hz : 1000 ≤ z) (hI : IA c W P) (hIC : IC M W P) (hIM : IM N W P) :
    ∃ b M' N', F_Rec_undo z M = some (b, M') ∧ F_Mod_undo z N = some (b, N') ∧ OK5 c M M' N N' := by
  obtain ⟨⟨p, hC⟩, r, hP⟩ := id hIC
  obtain ⟨hR, hPM⟩ := id hIM
  rcases cw_undo hz (CW_P hC) hP with ⟨h0, a1⟩ | ⟨n, M', r', hn, a1, a2, a3, a4, a5⟩
  · rcases mm_undo hz hPM with ⟨-, b1⟩ | ⟨n, N', hn, -⟩
    · exact ⟨false, M, N, a1, b1, W, P, IA_mono hI (by omega), hIC, hIM, FrD_rf M, FrN_rf N⟩
    · omega
  · rcases mm_undo hz hPM with ⟨h0, -⟩ | ⟨n', N', hn', b1, b2, b3, b4, b5⟩
    · omega
    · have e : n' = n := by omega
      subst e
      obtain ⟨i1, i2, i3, i4⟩ := hI
      refine ⟨true, M', N', a1, b1, P.2 n', (n', P.2), IA_mono (c := c) ⟨i3 n' (by omega), fun k hk => i4 k n' (Nat.le_of_lt hk) (by omega), fun k hk => i3 k (by have : k < n' := hk; omega), fun j k hj hk => i4 j k hj (by have : k < n' := hk; omega)⟩ (by omega), ⟨⟨p, a2⟩, r', a3⟩, ⟨b2, b3⟩, ⟨fun c' h1 h2 _ _ => a4 c' h1 h2, a5⟩, fun c' h => ?_, b5⟩
      simp only [List.mem_cons, List.not_mem_nil, or_false] at h
      exact b4 c' (by omega) (by omega)
theorem three_k {x : Int32} (h : F_Rec_within x (nI 1) (nI 3) = true) : x = nI 1 ∨ x = nI 2 ∨ x = nI 3 := by
  obtain ⟨k, h1, h2, e⟩ := rng_n (by omega) (by omega) (of_decide_eq_true h)
  have : k = 1 ∨ k = 2 ∨ k = 3 := by omega
  rcases this with rfl | rfl | rfl
  · exact Or.inl e
  · exact Or.inr (Or.inl e)
  · exact Or.inr (Or.inr e)
theorem b_set (hz : 1000 ≤ z) (hI : IA c W P) (hIC : IC M W P) (hIM : IM N W P) (what who v : Int32) :
    ∃ b M' N', F_Rec_set z what who v M = some (b, M') ∧ F_Mod_set z what who v N = some (b, N') ∧ OK5 c M M' N N' := by
  have hf := hI.1
  have h20 := wf_20 hf
  obtain ⟨⟨p, hC⟩, r, hP⟩ := id hIC
  obtain ⟨hR, hPM⟩ := id hIM
  have same : OK5 c M M N N := ⟨W, P, IA_mono hI (by omega), hIC, hIM, FrD_rf M, FrN_rf N⟩
  have ne : ∀ {a b : Nat}, a < 10 → b < 10 → a ≠ b → ¬ nI a = nI b := fun h1 h2 h => eF h (by omega) (by omega)
  have no : F_Rec_set z what who v M = some (false, M) → F_Mod_canSet z what who v N = some false → ∃ b M' N', F_Rec_set z what who v M = some (b, M') ∧ F_Mod_set z what who v N = some (b, N') ∧ OK5 c M M' N N' := fun h1 h2 => by
    refine ⟨_, M, N, h1, ?_, same⟩
    unfold F_Mod_set
    rw [h2, ob1_ok, ob1_ok, ob1_ok, if_pos (show (!false) = true from rfl)]
  have yes : ∀ (W' : Wd) (M1 N1 : mM), F_Rec_set z what who v M = some (true, up M1 0 7 (nI 0)) → F_Mod_set z what who v N = some (true, up N1 312 3 (nI 0)) → wf c W' → CW false 1 M1 p W' → (∀ c', ¬ inW 1 c' → M1 c' = M c') → RM N1 W' → Fr [313] N N1 → ∃ b M' N', F_Rec_set z what who v M = some (b, M') ∧ F_Mod_set z what who v N = some (b, N') ∧ OK5 c M M' N N' := fun W' M1 N1 h1 h2 h3 h4 h5 h6 h7 => ⟨_, _, _, h1, h2, set_end hIC hIM h3 h4 h5 h6 h7⟩
  have inw : ∀ {c0 k : Nat} {x : Int32}, inW 1 c0 → ∀ c', ¬ inW 1 c' → up M c0 k x c' = M c' := fun h0 c' h => by
    funext j
    exact up_neC _ _ _ _ (fun e => h (e ▸ h0))
  by_cases h0 : what = nI 0
  · subst h0
    by_cases hc1 : F_Rec_within who (nI 0) (nI 59) = true ∧ F_Rec_within v (nI 0) (nI 99) = true
    · obtain ⟨hw, hv⟩ := id hc1
      rw [within_inch] at hw
      rcases inch_c who with ⟨i, hi, rfl⟩ | hx
      · obtain ⟨g, -, hg, rfl⟩ := rng_n (by omega) (by omega) (of_decide_eq_true hv)
        refine yes (wSetG W i (nI g)) (up M 2 i (nI g)) (up N 313 (10 + i) (nI g - nI 50)) ?_ ?_ (wf_setG hf hg) (CW_setG hC) (inw (by unfold inW; omega)) (RM_setG hR hi) (Fr_up (Fr_rf _ _) (by simp))
        · unfold F_Rec_set F_Rec_setGlue F_Rec_forget
          rw [if_pos rfl, if_neg (fun h => h.elim (fun h => h hc1.1) (fun h => h hv)), wa_ok (by omega) (by omega), ob1_ok, ob2_ok, ob2_ok, if_pos rfl, ob1_ok, ob1_ok, ob1_ok]
        · unfold F_Mod_set F_Mod_canSet
          rw [if_pos rfl, ob1_ok, ob1_ok, isIn_eq, decide_eq_true (show F_Mod_isInch (nI i) = true ∧ F_Rec_within (nI g) (nI 0) (nI 99) = true from ⟨hw, hv⟩), ob1_ok, if_neg (show ¬ (!true) = true from Bool.false_ne_true), if_pos rfl, glue_eq hR hi hg, ob1_ok, ob1_ok,
            if_neg (ne (by omega) (by omega) (by omega)), ob1_ok, if_neg (ne (by omega) (by omega) (by omega)), ob1_ok, if_neg (ne (by omega) (by omega) (by omega)), ob1_ok, if_neg (ne (by omega) (by omega) (by omega)), ob1_ok, if_neg (ne (by omega) (by omega) (by omega)), ob1_ok, ob1_ok]
      · exact absurd (of_decide_eq_true hw) hx
    · refine no ?_ ?_
      · unfold F_Rec_set F_Rec_setGlue
        have hc2 : ¬ F_Rec_within who (nI 0) (nI 59) = true ∨ ¬ F_Rec_within v (nI 0) (nI 99) = true := by
          by_cases h : F_Rec_within who (nI 0) (nI 59) = true
          · exact Or.inr (fun h2 => hc1 ⟨h, h2⟩)
          · exact Or.inl h
        rw [if_pos rfl, if_pos hc2, ob2_ok, ob2_ok, if_neg Bool.false_ne_true, ob1_ok]
      · unfold F_Mod_canSet
        have e : ¬ (F_Mod_isInch who = true ∧ F_Mod_isIn v (nI 0) (nI 99) = true) := by
          rw [within_inch] at hc1
          exact hc1
        rw [if_pos rfl, decide_eq_false e]
  · by_cases h45 : what = nI 4 ∨ what = nI 5
    · by_cases hv : F_Rec_within v (nI 0) (nI 9) = true
      · have hcs : F_Mod_canSet z what who v N = some true := by
          unfold F_Mod_canSet
          rw [if_neg h0, if_pos h45, isIn_eq, hv]
        have h1 : ¬ what = nI 1 := fun h => by
          rcases h45 with e | e <;> exact ne (by omega) (by omega) (by omega) (e.symm.trans h)
        have h2 : ¬ what = nI 2 := fun h => by
          rcases h45 with e | e <;> exact ne (by omega) (by omega) (by omega) (e.symm.trans h)
        have h3 : ¬ what = nI 3 := fun h => by
          rcases h45 with e | e <;> exact ne (by omega) (by omega) (by omega) (e.symm.trans h)
        by_cases h4 : what = nI 4
        · have h5 : ¬ what = nI 5 := fun h => ne (by omega) (by omega) (by omega) (h4.symm.trans h)
          refine yes (wSetS W 3 v) (up M 1 7 v) (up N 313 3 v) ?_ ?_ (wf_setS hf (by omega)) (CW_setS (k := 3) hC (by omega) (by omega)) (inw (by unfold inW; omega)) (RM_setS hR (by omega) (by omega)) (Fr_up (Fr_rf _ _) (by simp))
          · unfold F_Rec_set F_Rec_setSky F_Rec_forget
            rw [if_neg h0, if_pos h45, if_neg (fun h => h hv), if_pos h4, ob1_ok, ob1_ok, ob2_ok, ob2_ok, ob2_ok, if_pos rfl, ob1_ok, ob1_ok, ob1_ok]
          · unfold F_Mod_set
            rw [hcs, ob1_ok, ob1_ok, ob1_ok, if_neg (show ¬ (!true) = true from Bool.false_ne_true), if_neg h0, ob1_ok, if_neg h1, ob1_ok, if_neg h2, ob1_ok, if_neg h3, ob1_ok, if_pos h4, wa_ok (by omega) (by omega), ob1_ok, ob1_ok, if_neg h5, ob1_ok, ob1_ok]
        · have h5 : what = nI 5 := h45.resolve_left h4
          refine yes (wSetS W 4 v) (up M 1 8 v) (up N 313 4 v) ?_ ?_ (wf_setS hf (by omega)) (CW_setS (k := 4) hC (by omega) (by omega)) (inw (by unfold inW; omega)) (RM_setS hR (by omega) (by omega)) (Fr_up (Fr_rf _ _) (by simp))
          · unfold F_Rec_set F_Rec_setSky F_Rec_forget
            rw [if_neg h0, if_pos h45, if_neg (fun h => h hv), if_neg h4, ob1_ok, ob1_ok, ob2_ok, ob2_ok, ob2_ok, if_pos rfl, ob1_ok, ob1_ok, ob1_ok]
          · unfold F_Mod_set
            rw [hcs, ob1_ok, ob1_ok, ob1_ok, if_neg (show ¬ (!true) = true from Bool.false_ne_true), if_neg h0, ob1_ok, if_neg h1, ob1_ok, if_neg h2, ob1_ok, if_neg h3, ob1_ok, if_neg h4, ob1_ok, if_pos h5, wa_ok (by omega) (by omega), ob1_ok, ob1_ok, ob1_ok]
      · refine no ?_ ?_
        · unfold F_Rec_set F_Rec_setSky
          rw [if_neg h0, if_pos h45, if_pos hv, ob2_ok, ob2_ok, ob2_ok, if_neg Bool.false_ne_true, ob1_ok]
        · unfold F_Mod_canSet
          rw [if_neg h0, if_pos h45, isIn_eq]
          cases h : F_Rec_within v (nI 0) (nI 9) with
          | true => exact absurd h hv
          | false => rfl
    · have hfi := cw_find (z := z) (by omega) isW_1 hC who
      have hto := mm_thingOf (z := z) (by omega) hR h20 who
      cases hx : wOf W who with
      | none =>
        rw [hx] at hfi hto
        refine no ?_ ?_
        · unfold F_Rec_set F_Rec_setThing
          rw [if_neg h0, if_neg h45, hfi, ob1_ok, if_pos (show (Option.map p none : Option Nat) = none from rfl), ob2_ok, ob2_ok, ob2_ok, if_neg Bool.false_ne_true, ob1_ok]
        · unfold F_Mod_canSet
          rw [if_neg h0, if_neg h45]
          by_cases h13 : F_Mod_isIn what (nI 1) (nI 3) = true
          · rw [if_pos h13, hto, ob1_ok, show oI none = (-1 : Int32) from rfl, decide_eq_false (fun h => h rfl), ob1_ok, if_neg Bool.false_ne_true, ob1_ok]
          · rw [if_neg h13, ob1_ok, if_neg Bool.false_ne_true, ob1_ok]
      | some t =>
        rw [hx] at hfi hto
        obtain ⟨ht, e0⟩ := wOf_some hx
        rw [oI_some] at hto
        have hpt := (CW_P hC t (by omega)).1
        have hd : dT (Option.map p (some t)) = some (p t) := by
          show dT (some (p t)) = some (p t)
          unfold dT
          exact if_pos (isTh_of isW_1 hpt.1 hpt.2)
        have hsome : ¬ (Option.map p (some t) : Option Nat) = none := fun h => by cases h
        have hcan : F_Mod_canSet z what who v N = some (decide (F_Rec_within what (nI 1) (nI 3) = true ∧ F_Rec_within v (if what = nI 1 then nI 1 else nI 0) (if what = nI 3 then nI 6 else nI 9) = true)) := by
          unfold F_Mod_canSet
          rw [if_neg h0, if_neg h45, isIn_eq, isIn_eq]
          by_cases h13 : F_Rec_within what (nI 1) (nI 3) = true
          · rw [if_pos h13, hto, ob1_ok, decide_eq_true (mF (a := t) (by omega)), ob1_ok, if_pos rfl, ob1_ok]
            congr 1
            exact decide_eq_decide.mpr ⟨fun h => ⟨h13, h⟩, fun h => h.2⟩
          · rw [if_neg h13, ob1_ok, if_neg Bool.false_ne_true, ob1_ok, decide_eq_false (fun h => h13 h.1)]
        by_cases h13 : F_Rec_within what (nI 1) (nI 3) = true
        · rcases three_k h13 with rfl | rfl | rfl
          · rw [if_pos rfl, if_neg (ne (by omega) (by omega) (by omega))] at hcan
            by_cases hv : F_Rec_within v (nI 1) (nI 9) = true
            · obtain ⟨s, s1, s2, rfl⟩ := rng_n (by omega) (by omega) (of_decide_eq_true hv)
              rw [decide_eq_true (And.intro h13 hv)] at hcan
              refine yes (wSetT W t 2 (nI s)) (up M (p t) 2 (nI s)) (up N 313 (130 + 7 * t + 2) (nI s)) ?_ ?_ (wf_setT hf (by omega) (by omega) (fun _ => ⟨s, s1, s2, rfl⟩)) (CW_setT hC ht (by omega) (by omega)) (inw (by unfold inW; omega)) (RM_setT hR (by omega)) (Fr_up (Fr_rf _ _) (by simp))
              · unfold F_Rec_set F_Rec_setThing F_Rec_forget
                rw [if_neg h0, if_neg h45, hfi, ob1_ok, if_neg hsome, jn_eq, if_pos ⟨rfl, hv⟩, hd, ob1_ok, ob1_ok, ob2_ok, ob2_ok, ob2_ok, if_pos rfl, ob1_ok, ob1_ok, ob1_ok]
              · unfold F_Mod_set
                rw [hcan, ob1_ok, ob1_ok, ob1_ok, if_neg (show ¬ (!true) = true from Bool.false_ne_true), if_neg h0, ob1_ok, if_pos rfl, hto, ob1_ok, mm_thingAt, nadd, wa_ok (by omega) (by omega), ob1_ok, ob1_ok, if_neg (ne (by omega) (by omega) (by omega)), ob1_ok, if_neg (ne (by omega) (by omega) (by omega)), ob1_ok, if_neg (fun h => h45 (Or.inl h)), ob1_ok, if_neg (fun h => h45 (Or.inr h)), ob1_ok, ob1_ok]
            · rw [decide_eq_false (fun h => hv h.2)] at hcan
              refine no ?_ hcan
              unfold F_Rec_set F_Rec_setThing
              rw [if_neg h0, if_neg h45, hfi, ob1_ok, if_neg hsome, jn_eq, if_neg (fun h => hv h.2), if_neg (fun h => ne (by omega) (by omega) (by omega) h.1), if_neg (fun h => ne (by omega) (by omega) (by omega) h.1), ob2_ok, ob2_ok, ob2_ok, if_neg Bool.false_ne_true, ob1_ok]
          · rw [if_neg (ne (by omega) (by omega) (by omega)), if_neg (ne (by omega) (by omega) (by omega))] at hcan
            by_cases hv : F_Rec_within v (nI 0) (nI 9) = true
            · rw [decide_eq_true (And.intro h13 hv)] at hcan
              refine yes (wSetT W t 3 v) (up M (p t) 3 v) (up N 313 (130 + 7 * t + 3) v) ?_ ?_ (wf_setT hf (by omega) (by omega) (fun h => absurd h (by omega))) (CW_setT hC ht (by omega) (by omega)) (inw (by unfold inW; omega)) (RM_setT hR (by omega)) (Fr_up (Fr_rf _ _) (by simp))
              · unfold F_Rec_set F_Rec_setThing F_Rec_forget
                rw [if_neg h0, if_neg h45, hfi, ob1_ok, if_neg hsome, jn_eq, if_neg (fun h => ne (by omega) (by omega) (by omega) h.1), if_pos ⟨rfl, hv⟩, hd, ob1_ok, ob1_ok, ob2_ok, ob2_ok, ob2_ok, if_pos rfl, ob1_ok, ob1_ok, ob1_ok]
              · unfold F_Mod_set
                rw [hcan, ob1_ok, ob1_ok, ob1_ok, if_neg (show ¬ (!true) = true from Bool.false_ne_true), if_neg h0, ob1_ok, if_neg (ne (by omega) (by omega) (by omega)), ob1_ok, if_pos rfl, hto, ob1_ok, mm_thingAt, nadd, wa_ok (by omega) (by omega), ob1_ok, ob1_ok, if_neg (ne (by omega) (by omega) (by omega)), ob1_ok, if_neg (fun h => h45 (Or.inl h)), ob1_ok, if_neg (fun h => h45 (Or.inr h)), ob1_ok, ob1_ok]
            · rw [decide_eq_false (fun h => hv h.2)] at hcan
              refine no ?_ hcan
              unfold F_Rec_set F_Rec_setThing
              rw [if_neg h0, if_neg h45, hfi, ob1_ok, if_neg hsome, jn_eq, if_neg (fun h => ne (by omega) (by omega) (by omega) h.1), if_neg (fun h => hv h.2), if_neg (fun h => ne (by omega) (by omega) (by omega) h.1), ob2_ok, ob2_ok, ob2_ok, if_neg Bool.false_ne_true, ob1_ok]
          · rw [if_neg (ne (by omega) (by omega) (by omega)), if_pos rfl] at hcan
            by_cases hv : F_Rec_within v (nI 0) (nI 6) = true
            · rw [decide_eq_true (And.intro h13 hv)] at hcan
              refine yes (wSetT W t 6 v) (up M (p t) 6 v) (up N 313 (130 + 7 * t + 6) v) ?_ ?_ (wf_setT hf (by omega) (by omega) (fun h => absurd h (by omega))) (CW_setT hC ht (by omega) (by omega)) (inw (by unfold inW; omega)) (RM_setT hR (by omega)) (Fr_up (Fr_rf _ _) (by simp))
              · unfold F_Rec_set F_Rec_setThing F_Rec_forget
                rw [if_neg h0, if_neg h45, hfi, ob1_ok, if_neg hsome, jn_eq, if_neg (fun h => ne (by omega) (by omega) (by omega) h.1), if_neg (fun h => ne (by omega) (by omega) (by omega) h.1), if_pos ⟨rfl, hv⟩, hd, ob1_ok, ob1_ok, ob2_ok, ob2_ok, ob2_ok, if_pos rfl, ob1_ok, ob1_ok, ob1_ok]
              · unfold F_Mod_set
                rw [hcan, ob1_ok, ob1_ok, ob1_ok, if_neg (show ¬ (!true) = true from Bool.false_ne_true), if_neg h0, ob1_ok, if_neg (ne (by omega) (by omega) (by omega)), ob1_ok, if_neg (ne (by omega) (by omega) (by omega)), ob1_ok, if_pos rfl, hto, ob1_ok, mm_thingAt, nadd, wa_ok (by omega) (by omega), ob1_ok, ob1_ok, if_neg (fun h => h45 (Or.inl h)), ob1_ok, if_neg (fun h => h45 (Or.inr h)), ob1_ok, ob1_ok]
            · rw [decide_eq_false (fun h => hv h.2)] at hcan
              refine no ?_ hcan
              unfold F_Rec_set F_Rec_setThing
              rw [if_neg h0, if_neg h45, hfi, ob1_ok, if_neg hsome, jn_eq, if_neg (fun h => ne (by omega) (by omega) (by omega) h.1), if_neg (fun h => ne (by omega) (by omega) (by omega) h.1), if_neg (fun h => hv h.2), ob2_ok, ob2_ok, ob2_ok, if_neg Bool.false_ne_true, ob1_ok]
        · rw [decide_eq_false (fun h => h13 h.1)] at hcan
          refine no ?_ hcan
          have hk : ∀ k, 1 ≤ k → k ≤ 3 → ¬ what = nI k := fun k h1 h2 e => h13 (by rw [e]; exact rg_k (by omega) h1 h2)
          unfold F_Rec_set F_Rec_setThing
          rw [if_neg h0, if_neg h45, hfi, ob1_ok, if_neg hsome, jn_eq, if_neg (fun h => hk 1 (by omega) (by omega) h.1), if_neg (fun h => hk 2 (by omega) (by omega) h.1), if_neg (fun h => hk 3 (by omega) (by omega) h.1), ob2_ok, ob2_ok, ob2_ok, if_neg Bool.false_ne_true, ob1_ok]
end S55
