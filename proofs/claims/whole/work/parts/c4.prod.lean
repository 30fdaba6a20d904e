/-! ===== a product, both ways ===== -/
def LX (z y : Nat) (w : Int32) (b : Bool) (n_ : Int32) (M : mM) : Option (Bool × mM) := L_Reader_expression_1 z (fun (_ : Int32) (_ : Bool) (M404 : mM) => some (false, M404)) y w b n_ M
def PX (z y : Nat) (N : mM) : Option (Int32 × mM) := L_Mod_readProduct_1 z (fun (M41 : mM) => some (nI 0, M41)) y N
section SC4
variable {z n t i : Nat} {M N M' N' : mM} {tp : Nat → Nat} {d b0 b1 cc cm yc ym cn s : Nat} {f : En → Int32} {fs : Fs} {w : Int32}
theorem LX_false {y : Nat} {w n_ : Int32} : LX z (y + 1) w false n_ M = some (false, M) := by
  unfold LX
  rw [L_Reader_expression_1, if_neg (fun e => Bool.false_ne_true e.2)]
/-- a number behind the sign of division -/
theorem b_div (hz : 1000 ≤ z) (h : PZ tp n t i M N) (hx : XSt d b0 b1 cc cm (f :: fs) M N) (hcc : cc ≤ i) (hcm : cm + 1 ≤ i) (R : mM → Option (Int32 × mM)) : ∃ M' N', FrX cc M M' ∧ FrY cm N N' ∧
    ((F_Reader_divisor M = some (false, M') ∧ FQ M' N' ∧
      (if ¬ N 312 11 = nI 3 then ob2 (F_Mod_errs (nI 1) N) fun v38 M39 => some (v38, M39)
       else if N 312 12 = nI 0 then ob2 (F_Mod_errs (nI 2) N) fun v35 M36 => some (v35, M36)
       else ob2 (ob2 (F_Mod_readUnit z N) fun v32 M33 => some (decide (v32 = (-1)), M33)) fun x19 M21 => if x19 = true then some ((-1), M21) else ob1 (F_Mod_emits (nI 5) (nI 0) M21) fun M30 => R M30) = some (-1, N')) ∨
     (∃ g, i < t ∧ F_Reader_divisor M = some (true, M') ∧ PZ tp n t (i + 1) M' N' ∧ XSt d b0 b1 (cc + 1) (cm + 2) (g :: fs) M' N' ∧
      (if ¬ N 312 11 = nI 3 then ob2 (F_Mod_errs (nI 1) N) fun v38 M39 => some (v38, M39)
       else if N 312 12 = nI 0 then ob2 (F_Mod_errs (nI 2) N) fun v35 M36 => some (v35, M36)
       else ob2 (ob2 (F_Mod_readUnit z N) fun v32 M33 => some (decide (v32 = (-1)), M33)) fun x19 M21 => if x19 = true then some ((-1), M21) else ob1 (F_Mod_emits (nI 5) (nI 0) M21) fun M30 => R M30) = R N')) := by
  have hr := PZ_r h
  have ht := PZ_t h
  unfold F_Reader_divisor
  rw [pz_kind h, ob1_ok, ob1_ok]
  by_cases h2 : (tkA tp n i).1 = 2
  · have hit := PZ_lt h (by omega)
    have hv := hr.2.2.1 h2
    have hmv := pz_mval h (by omega)
    rw [if_neg (by omega)] at hmv
    rw [if_neg (show ¬ ¬ N 312 11 = nI 3 from fun e => e ((pz_mkind h).1.mpr h2)), h2, decide_eq_false (fun e => e rfl), if_neg Bool.false_ne_true, pz_val h (by omega), ob1_ok, ob1_ok, hmv]
    by_cases hv0 : (tkA tp n i).2.1 = 0
    · obtain ⟨M', N', g1, g2, g3, g4, g5⟩ := x_fail h (nI 2) cc cm
      refine ⟨M', N', g4, g5, Or.inl ⟨?_, g3, ?_⟩⟩
      · rw [hv0, decide_eq_true rfl, if_pos rfl, g1, ob2_ok]
      · rw [hv0, if_pos rfl, g2, ob2_ok]
    · have hna : ¬ (N 312 11 = nI 2 ∧ F_Mod_canAsk (N 312 12) = true) := fun e => by
        have := (ask_m h).mp e
        omega
      obtain ⟨M', N', g1, g2, g3, g4, g5, g6⟩ := x_step (z := z) hz (PZ_e (cc := cc) (cm := cm) (x := nI 20000 + nI (tkA tp n i).2.1) (o := nI 0) (a := nI (tkA tp n i).2.1) h) (by omega) (cc) (cm)
      have hu : F_Mod_readUnit z N = some (nI 0, N') := by
        unfold F_Mod_readUnit
        rw [ob1_ok, decide_eq_false hna, if_neg (fun e => e.2 ((pz_mkind h).1.mpr h2)), if_neg Bool.false_ne_true, if_neg Bool.false_ne_true, hmv, em_m hx.2.1 (by omega), ob1_ok, g2, ob1_ok]
      have n22 : N' 312 22 = nI (cm + 1) := by
        rw [g6.2.2.1]
        unfold en
        rw [up_same]
      refine ⟨M', en N' (cm + 1) (nI 5) (nI 0), FrX_tr (FrX_e (Nat.le_refl _)) g4 (Nat.le_refl _), FrY_tr (FrY_tr (FrY_e (Nat.le_refl _)) g5 (Nat.le_refl _)) (FrY_e (b := cm) (by omega)) (Nat.le_refl _), Or.inr ⟨fun env => f env / nI (tkA tp n i).2.1, hit, ?_, PZ_en g3, ⟨?_, ?_, ?_, ?_⟩, ?_⟩⟩
      · rw [decide_eq_false (eF hv0 (by omega) (by omega)), if_neg Bool.false_ne_true, ob1_ok, em_c hx.1 (by omega), ob2_ok, g1, ob2_ok]
      · rw [g6.2.1]
        unfold ec
        rw [up_same]
      · unfold en
        rw [up_same]
      · rw [g6.1]
        exact XStc hx (fun env st hst => cst_div (by omega) hv)
      · refine RMe (fs := (fun _ => nI (tkA tp n i).2.1) :: f :: fs) ?_ (fun env st => mst_two (by omega) (by omega) (by omega) ?_)
        · show RunM (dr N' 324) (dr N' 325) _ _ _
          unfold dr
          rw [g6.2.2.2.1, g6.2.2.2.2]
          exact RMe hx.2.2.2 (fun env st => mst_num)
        · unfold F_Mod_twoOf
          rw [if_neg (by decide), if_neg (by decide), if_neg (by decide), if_pos rfl, nz_ok (by omega) (by omega), ob1_ok]
      · rw [if_neg (eF hv0 (by omega) (by omega)), hu, ob2_ok, ob2_ok, decide_eq_false (nI_nm (by omega)), if_neg Bool.false_ne_true, em_m n22 (by omega), ob1_ok]
  · obtain ⟨M', N', g1, g2, g3, g4, g5⟩ := x_fail h (nI 1) cc cm
    refine ⟨M', N', g4, g5, Or.inl ⟨?_, g3, ?_⟩⟩
    · rw [decide_eq_true (eF h2 (by omega) (by omega)), if_pos rfl, g1, ob2_ok]
    · rw [if_pos (fun e => h2 ((pz_mkind h).1.mp e)), g2, ob2_ok]
theorem b_prod (hz : 1000 ≤ z) (hd : fs.length + 2 ≤ d) (hd2 : d ≤ 64) : ∀ (m i cc cm yc ym cn : Nat) (f : En → Int32) (M N : mM), t - i ≤ m → PZ tp n t i M N → XSt d b0 b1 cc cm (f :: fs) M N → cc + s ≤ i → cm + s ≤ i → cn < i → 402 ≤ yc + cn → 402 ≤ ym + i →
    ∃ M' N', FrX cc M M' ∧ FrY cm N N' ∧
    ((LX z yc w true (nI cn) M = some (false, M') ∧ PX z ym N = some (-1, N') ∧ FQ M' N') ∨
     (∃ g i' cc' cm' yc' cn', LX z yc w true (nI cn) M = LX z yc' w true (nI cn') M' ∧ PX z ym N = some (nI 0, N') ∧ PZ tp n t i' M' N' ∧ XSt d b0 b1 cc' cm' (g :: fs) M' N' ∧ cc ≤ cc' ∧ cm ≤ cm' ∧ cc' + s ≤ i' ∧ cm' + s ≤ i' ∧ cn' < i' ∧ 402 ≤ yc' + cn' ∧ i ≤ i' ∧ ¬ ((tkA tp n i').1 = 4 ∧ (tkA tp n i').2.1 = 42) ∧ ¬ ((tkA tp n i').1 = 4 ∧ (tkA tp n i').2.1 = 47))) := by
  intro m
  induction m with
  | zero =>
    intro i cc cm yc ym cn f M N hm h hx h1 h2 h3 h4 h5
    have ht := PZ_t h
    have h0 : ¬ (tkA tp n i).1 ≠ 0 := fun e => by
      have := PZ_lt h e
      omega
    obtain ⟨ym, rfl⟩ : ∃ k, ym = k + 1 := ⟨ym - 1, by omega⟩
    refine ⟨M, N, FrX_rf, FrY_rf, Or.inr ⟨f, i, cc, cm, yc, cn, rfl, ?_, h, hx, Nat.le_refl _, Nat.le_refl _, h1, h2, h3, h4, Nat.le_refl _, by omega, by omega⟩⟩
    unfold PX
    rw [L_Mod_readProduct_1, (pz_isSign h (by omega)).2, (pz_isSign h (by omega)).2, if_neg]
    rintro (e | e)
    · have := of_decide_eq_true e
      omega
    · have := of_decide_eq_true e
      omega
  | succ m ih =>
    intro i cc cm yc ym cn f M N hm h hx h1 h2 h3 h4 h5
    have ht := PZ_t h
    obtain ⟨ym, rfl⟩ : ∃ k, ym = k + 1 := ⟨ym - 1, by omega⟩
    obtain ⟨p1, p2⟩ := pz_isSign h (show 42 < 256 by omega)
    obtain ⟨p3, p4⟩ := pz_isSign h (show 47 < 256 by omega)
    by_cases a1 : (tkA tp n i).1 = 4 ∧ (tkA tp n i).2.1 = 42
    · have hit := PZ_lt h (by omega)
      obtain ⟨yc, rfl⟩ : ∃ k, yc = k + 2 := ⟨yc - 2, by omega⟩
      obtain ⟨M1, N1, s1, s2, s3, s4, s5, s6⟩ := x_step (z := z) hz h (by omega) cc cm
      obtain ⟨M2, N2, u1, u2, u3⟩ := b_unit (z := z) hz s3 (XSt_st hx s6) (by simp only [List.length_cons]; omega) hd2 (by omega) (by omega)
      have eC : ∀ {v : Bool} {M3 : mM}, F_Reader_unit M1 = some (v, M3) → LX z (yc + 2) w true (nI cn) M = ob2 (if v = true then ob2 (F_Reader_emit (nI 11002) M3) fun v294 M295 => some (v294, M295) else some (false, M3)) fun x M4 => LX z (yc + 1) w x (nI (cn + 1)) M4 := by
        intro v M3 hu
        conv => lhs; unfold LX
        rw [L_Reader_expression_1, if_pos ⟨lT (by omega) (by omega), rfl⟩, jn_eq, p1, ob1_ok, ob1_ok, if_pos (decide_eq_true a1), s1, ob2_ok, hu, ob2_ok, ob2_ok, nadd cn 1]
        rfl
      have eM : PX z (ym + 1) N = ob2 (ob2 (F_Mod_readUnit z N1) fun v32 M33 => some (decide (v32 = (-1)), M33)) fun x19 M21 => if x19 = true then some ((-1), M21) else ob1 (F_Mod_emits (nI 4) (nI 0) M21) fun M30 => PX z ym M30 := by
        conv => lhs; unfold PX
        rw [L_Mod_readProduct_1, p2, decide_eq_true a1, if_pos (Or.inl rfl), s2, ob1_ok, if_neg (fun e => e.1 rfl), if_neg (fun e => e.1 rfl), if_pos rfl]
        rfl
      rcases u3 with ⟨v1, v2, v3⟩ | ⟨g, v0, v1, v2, v3, v4⟩
      · refine ⟨M2, N2, FrX_tr s4 u1 (Nat.le_refl _), FrY_tr s5 u2 (Nat.le_refl _), Or.inl ⟨?_, ?_, v3⟩⟩
        · rw [eC v1, if_neg Bool.false_ne_true, ob2_ok, LX_false]
        · rw [eM, v2, ob2_ok, ob2_ok, if_pos (decide_eq_true rfl)]
      · have hX2 := XSt_e (x := nI 11002) (o := nI 4) (a := nI 0) (fs' := (fun env => f env * g env) :: fs) v4 (fun env st hst => cst_two (by omega) (by omega)) (fun env st => mst_two (by omega) (by omega) (by omega) rfl)
        obtain ⟨M3, N3, q1, q2, q3⟩ := ih (i + 2) (cc + 2) (cm + 2) (yc + 1) ym (cn + 1) _ _ _ (by omega) (PZ_e v3) hX2 (by omega) (by omega) (by omega) (by omega) (by omega)
        refine ⟨M3, N3, FrX_tr s4 (FrX_tr u1 (FrX_tr (FrX_e (b := cc) (by omega)) q1 (by omega)) (Nat.le_refl _)) (Nat.le_refl _), FrY_tr s5 (FrY_tr u2 (FrY_tr (FrY_e (b := cm) (by omega)) q2 (by omega)) (Nat.le_refl _)) (Nat.le_refl _), ?_⟩
        rw [eC v1, if_pos rfl, em_c v4.1 (by omega), ob2_ok, ob2_ok, eM, v2, ob2_ok, ob2_ok, decide_eq_false (nI_nm (by omega)), if_neg Bool.false_ne_true, em_m v4.2.1 (by omega), ob1_ok]
        rcases q3 with q3 | ⟨g', i', cc', cm', yc', cn', r1, r2, r3, r4, r5, r6, r7, r8, r9, r10, r11, r12⟩
        · exact Or.inl q3
        · exact Or.inr ⟨g', i', cc', cm', yc', cn', r1, r2, r3, r4, by omega, by omega, r7, r8, r9, r10, by omega, r12⟩
    · by_cases a2 : (tkA tp n i).1 = 4 ∧ (tkA tp n i).2.1 = 47
      · have hit := PZ_lt h (by omega)
        obtain ⟨yc, rfl⟩ : ∃ k, yc = k + 2 := ⟨yc - 2, by omega⟩
        obtain ⟨M1, N1, s1, s2, s3, s4, s5, s6⟩ := x_step (z := z) hz h (by omega) cc cm
        have eC : ∀ {v : Bool} {M3 : mM}, F_Reader_divisor M1 = some (v, M3) → LX z (yc + 2) w true (nI cn) M = LX z (yc + 1) w v (nI (cn + 1)) M3 := by
          intro v M3 hu
          conv => lhs; unfold LX
          rw [L_Reader_expression_1, if_pos ⟨lT (by omega) (by omega), rfl⟩, jn_eq, p1, ob1_ok, ob1_ok, if_neg (fun e => a1 (of_decide_eq_true e)), p3, ob1_ok, ob1_ok, if_pos (decide_eq_true a2), s1, ob2_ok, hu, ob2_ok, nadd cn 1]
          rfl
        obtain ⟨M2, N2, u1, u2, u3⟩ := b_div (z := z) hz s3 (XSt_st hx s6) (by omega) (by omega) (fun M30 => PX z ym M30)
        have eM : PX z (ym + 1) N = (if ¬ N1 312 11 = nI 3 then ob2 (F_Mod_errs (nI 1) N1) fun v38 M39 => some (v38, M39)
       else if N1 312 12 = nI 0 then ob2 (F_Mod_errs (nI 2) N1) fun v35 M36 => some (v35, M36)
       else ob2 (ob2 (F_Mod_readUnit z N1) fun v32 M33 => some (decide (v32 = (-1)), M33)) fun x19 M21 => if x19 = true then some ((-1), M21) else ob1 (F_Mod_emits (nI 5) (nI 0) M21) fun M30 => PX z ym M30) := by
          conv => lhs; unfold PX
          rw [L_Mod_readProduct_1, p2, p4, decide_eq_false a1, decide_eq_true a2, if_pos (Or.inr rfl), s2, ob1_ok, if_neg Bool.false_ne_true]
          by_cases e3 : N1 312 11 = nI 3
          · rw [if_neg (fun e => e.2 e3), if_neg (show ¬ ¬ N1 312 11 = nI 3 from fun e => e e3)]
            by_cases e4 : N1 312 12 = nI 0
            · rw [if_pos ⟨Bool.false_ne_true, e4⟩, if_pos e4]
            · rw [if_neg (fun e => e4 e.2), if_neg e4]
              rfl
          · rw [if_pos ⟨Bool.false_ne_true, e3⟩, if_pos e3]
        rcases u3 with ⟨v1, v2, v3⟩ | ⟨g, v0, v1, v3, v4, v5⟩
        · refine ⟨M2, N2, FrX_tr s4 u1 (Nat.le_refl _), FrY_tr s5 u2 (Nat.le_refl _), Or.inl ⟨?_, eM.trans v3, v2⟩⟩
          rw [eC v1, LX_false]
        · obtain ⟨M3, N3, q1, q2, q3⟩ := ih (i + 2) (cc + 1) (cm + 2) (yc + 1) ym (cn + 1) _ _ _ (by omega) v3 v4 (by omega) (by omega) (by omega) (by omega) (by omega)
          refine ⟨M3, N3, FrX_tr s4 (FrX_tr u1 q1 (by omega)) (Nat.le_refl _), FrY_tr s5 (FrY_tr u2 q2 (by omega)) (Nat.le_refl _), ?_⟩
          rw [eC v1, eM, v5]
          rcases q3 with q3 | ⟨g', i', cc', cm', yc', cn', r1, r2, r3, r4, r5, r6, r7, r8, r9, r10, r11, r12⟩
          · exact Or.inl q3
          · exact Or.inr ⟨g', i', cc', cm', yc', cn', r1, r2, r3, r4, by omega, by omega, r7, r8, r9, r10, by omega, r12⟩
      · refine ⟨M, N, FrX_rf, FrY_rf, Or.inr ⟨f, i, cc, cm, yc, cn, rfl, ?_, h, hx, Nat.le_refl _, Nat.le_refl _, h1, h2, h3, h4, Nat.le_refl _, a1, a2⟩⟩
        unfold PX
        rw [L_Mod_readProduct_1, p2, p4, if_neg]
        rintro (e | e)
        · exact a1 (of_decide_eq_true e)
        · exact a2 (of_decide_eq_true e)
end SC4
