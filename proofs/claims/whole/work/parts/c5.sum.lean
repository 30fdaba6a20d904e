/-! ===== a sum, both ways ===== -/
def SX (z y : Nat) (N : mM) : Option (Int32 × mM) := L_Mod_readSum_1 z (fun (M33 : mM) => some (nI 0, M33)) y N
/-- which of plus and minus still waits: 0, 1 -/
def wC (w : Option Nat) : Int32 := match w with
  | none => -1
  | some k => nI (11000 + k)
def wF (w : Option Nat) (p : Fs) (fs : Fs) : Fs := match w with
  | none => fs
  | some _ => p ++ fs
def aftP (z ys : Nat) (w : Option Nat) (X : Option (Int32 × mM)) : Option (Int32 × mM) := match w with
  | none => ob2 (ob2 X fun v34 M35 => some (decide (v34 = (-1)), M35)) fun x1 M3 => if x1 = true then some ((-1), M3) else SX z ys M3
  | some k => ob2 (ob2 X fun v30 M31 => some (decide (v30 = (-1)), M31)) fun x18 M20 => if x18 = true then some ((-1), M20) else ob1 (F_Mod_emits (nI (2 + k)) (nI 0) M20) fun M28 => SX z ys M28
def wS1 (w : Option Nat) : Nat := match w with
  | none => 0
  | some _ => 1
section SC5
variable {z n t i : Nat} {M N M' N' : mM} {tp : Nat → Nat} {d b0 b1 cc cm yc ym cn s : Nat} {f : En → Int32} {fs : Fs}
theorem prod_eq : F_Mod_readProduct z N = ob2 (ob2 (F_Mod_readUnit z N) fun v42 M43 => some (decide (v42 = (-1)), M43)) fun x1 M3 => if x1 = true then some ((-1), M3) else PX z z M3 := rfl
theorem sum_eq : F_Mod_readSum z N = aftP z z none (F_Mod_readProduct z N) := rfl
theorem aftP_fail {z ys : Nat} {w : Option Nat} {X : Option (Int32 × mM)} (h : X = some (-1, N)) : aftP z ys w X = some (-1, N) := by
  subst h
  unfold aftP
  cases w with
  | none =>
    show (ob2 (ob2 (some (-1, N)) fun v34 M35 => some (decide (v34 = (-1)), M35)) fun x1 M3 => if x1 = true then some ((-1), M3) else SX z ys M3) = _
    rw [ob2_ok, ob2_ok, if_pos (decide_eq_true rfl)]
  | some k =>
    show (ob2 (ob2 (some (-1, N)) fun v30 M31 => some (decide (v30 = (-1)), M31)) fun x18 M20 => if x18 = true then some ((-1), M20) else ob1 (F_Mod_emits (nI (2 + k)) (nI 0) M20) fun M28 => SX z ys M28) = _
    rw [ob2_ok, ob2_ok, if_pos (decide_eq_true rfl)]
/-- what waits is written, both ways -/
theorem b_wait {w0 : Option Nat} {g : En → Int32} (hx : XSt d b0 b1 cc cm (f :: wF w0 [g] fs) M N) (hk : ∀ k, w0 = some k → k < 2) (hc : cc + wS1 w0 ≤ 400) (hm : cm + wS1 w0 ≤ 400) (h : PZ tp n t i M N) : ∃ M' N' g', (if ¬ wC w0 = (-1) then ob2 (F_Reader_emit (wC w0) M) fun v395 M396 => some M396 else some M) = some M' ∧
    (∀ ys X, X = some (nI 0, N) → aftP z ys w0 X = SX z ys N') ∧ PZ tp n t i M' N' ∧ FrX cc M M' ∧ FrY cm N N' ∧ XSt d b0 b1 (cc + wS1 w0) (cm + wS1 w0) (g' :: fs) M' N' := by
  cases w0 with
  | none =>
    refine ⟨M, N, f, if_neg (fun e => e rfl), fun ys X e => ?_, h, FrX_rf, FrY_rf, hx⟩
    subst e
    unfold aftP
    show (ob2 (ob2 (some (nI 0, N)) fun v34 M35 => some (decide (v34 = (-1)), M35)) fun x1 M3 => if x1 = true then some ((-1), M3) else SX z ys M3) = _
    rw [ob2_ok, ob2_ok, if_neg (fun e => nI_nm (show 0 < 2147483648 by omega) (of_decide_eq_true e))]
  | some k =>
    have hk2 := hk k rfl
    have hc' : cc + 1 ≤ 400 := hc
    have hm' : cm + 1 ≤ 400 := hm
    have hx' : XSt d b0 b1 cc cm (f :: g :: fs) M N := hx
    have hj : ∀ x y : Int32, F_Mod_twoOf (nI (2 + k)) x y = some (F_Law_joined (nI (11000 + k)) x y) := by
      intro x y
      have : k = 0 ∨ k = 1 := by omega
      rcases this with rfl | rfl
      · rfl
      · unfold F_Mod_twoOf F_Law_joined
        rw [if_neg (by decide), if_pos (by decide), if_neg (by decide), if_pos (by decide)]
    refine ⟨ec M cc (nI (11000 + k)), en N cm (nI (2 + k)) (nI 0), fun env => F_Law_joined (nI (11000 + k)) (g env) (f env), ?_, fun ys X e => ?_, PZ_e h, FrX_e (Nat.le_refl _), FrY_e (Nat.le_refl _), XSt_e hx' (fun env st hst => cst_two (by omega) (by omega)) (fun env st => mst_two (by omega) (by omega) (by omega) (hj _ _))⟩
    · show (if ¬ nI (11000 + k) = (-1) then ob2 (F_Reader_emit (nI (11000 + k)) M) fun v395 M396 => some M396 else some M) = _
      rw [if_pos (nI_nm (by omega)), em_c hx'.1 (by omega), ob2_ok]
    · subst e
      unfold aftP
      show (ob2 (ob2 (some (nI 0, N)) fun v30 M31 => some (decide (v30 = (-1)), M31)) fun x18 M20 => if x18 = true then some ((-1), M20) else ob1 (F_Mod_emits (nI (2 + k)) (nI 0) M20) fun M28 => SX z ys M28) = _
      rw [ob2_ok, ob2_ok, if_neg (fun e => nI_nm (show 0 < 2147483648 by omega) (of_decide_eq_true e)), em_m hx'.2.1 (by omega), ob1_ok]
theorem b_sum (hz : 1000 ≤ z) (hd : fs.length + 3 ≤ d) (hd2 : d ≤ 64) : ∀ (m i cc cm yc ym ys cn : Nat) (w : Option Nat) (f g : En → Int32) (M N : mM), t - i ≤ m → (∀ k, w = some k → k < 2) → PZ tp n t i M N → XSt d b0 b1 cc cm (f :: wF w [g] fs) M N → cc + wS1 w + s ≤ i → cm + wS1 w + s ≤ i → cn < i → 402 ≤ yc + cn → 402 ≤ ym + i → 402 ≤ ys + i →
    ∃ M' N', FrX cc M M' ∧ FrY cm N N' ∧
    ((LX z yc (wC w) true (nI cn) M = some (false, M') ∧ aftP z ys w (PX z ym N) = some (-1, N') ∧ FQ M' N') ∨
     (∃ g i' cc' cm', LX z yc (wC w) true (nI cn) M = some (true, M') ∧ aftP z ys w (PX z ym N) = some (nI 0, N') ∧ PZ tp n t i' M' N' ∧ XSt d b0 b1 cc' cm' (g :: fs) M' N' ∧ cc ≤ cc' ∧ cm ≤ cm' ∧ cc' + s ≤ i' ∧ cm' + s ≤ i' ∧ i ≤ i')) := by
  intro m
  induction m with
  | zero =>
    intro i cc cm yc ym ys cn w f g M N hm hw h hx h1 h2 h3 h4 h5 h6
    have ht := PZ_t h
    have h0 : (tkA tp n i).1 = 0 := by
      by_cases e : (tkA tp n i).1 = 0
      · exact e
      · have := PZ_lt h e
        omega
    obtain ⟨ym, rfl⟩ : ∃ k, ym = k + 1 := ⟨ym - 1, by omega⟩
    obtain ⟨yc, rfl⟩ : ∃ k, yc = k + 1 := ⟨yc - 1, by omega⟩
    obtain ⟨ys, rfl⟩ : ∃ k, ys = k + 1 := ⟨ys - 1, by omega⟩
    have hns : ∀ (q : Nat), ¬ ((tkA tp n i).1 = 4 ∧ (tkA tp n i).2.1 = q) := fun q e => by omega
    have eP : PX z (ym + 1) N = some (nI 0, N) := by
      unfold PX
      rw [L_Mod_readProduct_1, (pz_isSign h (by omega)).2, (pz_isSign h (by omega)).2, if_neg]
      rintro (e | e)
      · exact hns _ (of_decide_eq_true e)
      · exact hns _ (of_decide_eq_true e)
    obtain ⟨M1, N1, g', k1, k2, k3, k4, k5, k6⟩ := b_wait (z := z) hx hw (by omega) (by omega) h
    refine ⟨M1, N1, k4, k5, Or.inr ⟨g', i, _, _, ?_, ?_, k3, k6, by omega, by omega, h1, h2, Nat.le_refl _⟩⟩
    · unfold LX
      rw [L_Reader_expression_1, if_pos ⟨lT (by omega) (by omega), rfl⟩, jn_eq, (pz_isSign h (by omega)).1, ob1_ok, ob1_ok, if_neg (fun e => hns _ (of_decide_eq_true e)), (pz_isSign h (by omega)).1, ob1_ok, ob1_ok, if_neg (fun e => hns _ (of_decide_eq_true e)), k1, ob1_ok, (pz_isSign k3 (by omega)).1, ob1_ok, ob1_ok, ob1_ok, decide_eq_false (hns _), if_pos (show (!false) = true from rfl), (pz_isSign k3 (by omega)).1, ob1_ok, ob1_ok, ob1_ok, decide_eq_false (hns _)]
      rfl
    · rw [k2 (ys + 1) _ eP]
      unfold SX
      rw [L_Mod_readSum_1, (pz_isSign k3 (by omega)).2, (pz_isSign k3 (by omega)).2, if_neg]
      rintro (e | e)
      · exact hns _ (of_decide_eq_true e)
      · exact hns _ (of_decide_eq_true e)
  | succ m ih =>
    intro i cc cm yc ym ys cn w f g M N hm hw h hx h1 h2 h3 h4 h5 h6
    have ht := PZ_t h
    obtain ⟨M0, N0, a1, a2, a3⟩ := b_prod (z := z) (w := wC w) (s := wS1 w + s) hz (fs := wF w [g] fs) (d := d) (by cases w with
      | none => show fs.length + 2 ≤ d; omega
      | some k => show (g :: fs).length + 2 ≤ d; simp only [List.length_cons]; omega) hd2 (t - i) i cc cm yc ym cn f M N (Nat.le_refl _) h hx (by omega) (by omega) h3 h4 h5
    rcases a3 with ⟨c1, c2, c3⟩ | ⟨f1, j, dc, dm, yc', cn', c1, c2, c3, c4, c5, c6, c7, c8, c9, c10, c11, c12, c13⟩
    · exact ⟨M0, N0, a1, a2, Or.inl ⟨c1, aftP_fail c2, c3⟩⟩
    have htj := PZ_t c3
    rw [c1]
    obtain ⟨yc', rfl⟩ : ∃ k, yc' = k + 2 := ⟨yc' - 2, by omega⟩
    obtain ⟨ys, rfl⟩ : ∃ k, ys = k + 1 := ⟨ys - 1, by omega⟩
    obtain ⟨M1, N1, g', k1, k2, k3, k4, k5, k6⟩ := b_wait (z := z) c4 hw (by omega) (by omega) c3
    rw [k2 (ys + 1) _ c2]
    have fX1 := FrX_tr a1 k4 c5
    have fY1 := FrY_tr a2 k5 c6
    obtain ⟨p1, p2⟩ := pz_isSign k3 (show 43 < 256 by omega)
    obtain ⟨p3, p4⟩ := pz_isSign k3 (show 45 < 256 by omega)
    have eC0 : LX z (yc' + 2) (wC w) true (nI cn') M0 = ob1 (ob1 (ob1 (ob1 (F_Reader_isSign (nI 43) M1) fun v393 => some (v393)) fun x391 => some (!x391)) fun x377 => if x377 = true then ob1 (ob1 (F_Reader_isSign (nI 45) M1) fun v387 => some (v387)) fun x385 => some (!x385) else some (false)) fun x324 => if x324 = true then some (true, M1) else ob1 (ob1 (ob1 (F_Reader_isSign (nI 43) M1) fun v375 => some (v375)) fun x367 => if x367 = true then some (nI 11000) else some (nI 11001)) fun v359 => ob2 (F_Reader_step M1) fun v361 M362 => ob2 (F_Reader_unit M362) fun v364 M365 => LX z (yc' + 1) v359 v364 (nI (cn' + 1)) M365 := by
      conv => lhs; unfold LX
      rw [L_Reader_expression_1, if_pos ⟨lT (by omega) (by omega), rfl⟩, jn_eq, (pz_isSign c3 (by omega)).1, ob1_ok, ob1_ok, if_neg (fun e => c12 (of_decide_eq_true e)), (pz_isSign c3 (by omega)).1, ob1_ok, ob1_ok, if_neg (fun e => c13 (of_decide_eq_true e)), k1, ob1_ok, nadd cn' 1]
      rfl
    rw [eC0, p1, p3, ob1_ok, ob1_ok]
    -- one of the two signs, k
    have go : ∀ k, k < 2 → (tkA tp n j).1 ≠ 0 → ∃ M' N', FrX cc M M' ∧ FrY cm N N' ∧
      (((ob2 (F_Reader_step M1) fun v361 M362 => ob2 (F_Reader_unit M362) fun v364 M365 => LX z (yc' + 1) (nI (11000 + k)) v364 (nI (cn' + 1)) M365) = some (false, M') ∧ (ob1 (F_Mod_reads z N1) fun M16 => aftP z ys (some k) (F_Mod_readProduct z M16)) = some (-1, N') ∧ FQ M' N') ∨
       (∃ g i' cc' cm', (ob2 (F_Reader_step M1) fun v361 M362 => ob2 (F_Reader_unit M362) fun v364 M365 => LX z (yc' + 1) (nI (11000 + k)) v364 (nI (cn' + 1)) M365) = some (true, M') ∧ (ob1 (F_Mod_reads z N1) fun M16 => aftP z ys (some k) (F_Mod_readProduct z M16)) = some (nI 0, N') ∧ PZ tp n t i' M' N' ∧ XSt d b0 b1 cc' cm' (g :: fs) M' N' ∧ cc ≤ cc' ∧ cm ≤ cm' ∧ cc' + s ≤ i' ∧ cm' + s ≤ i' ∧ i ≤ i')) := by
      intro k hk hj0
      have hjt := PZ_lt k3 hj0
      obtain ⟨M2, N2, s1, s2, s3, s4, s5, s6⟩ := x_step (z := z) hz k3 hj0 cc cm
      obtain ⟨M3, N3, u1, u2, u3⟩ := b_unit (z := z) hz s3 (XSt_st k6 s6) (by simp only [List.length_cons]; omega) hd2 (by omega) (by omega)
      rw [s1, ob2_ok, s2, ob1_ok, prod_eq]
      have fX2 := FrX_tr fX1 s4 (Nat.le_refl _)
      have fY2 := FrY_tr fY1 s5 (Nat.le_refl _)
      rcases u3 with ⟨v1, v2, v3⟩ | ⟨g2, v0, v1, v2, v3, v4⟩
      · refine ⟨M3, N3, FrX_tr fX2 u1 (by omega), FrY_tr fY2 u2 (by omega), Or.inl ⟨?_, aftP_fail ?_, v3⟩⟩
        · rw [v1, ob2_ok, LX_false]
        · rw [v2, ob2_ok, ob2_ok, if_pos (decide_eq_true rfl)]
      · obtain ⟨M4, N4, q1, q2, q3⟩ := ih (j + 2) (dc + wS1 w + 1) (dm + wS1 w + 1) (yc' + 1) z ys (cn' + 1) (some k) g2 g' M3 N3 (by omega) (fun k' e => by cases e; exact hk) v3 v4 (show dc + wS1 w + 1 + 1 + s ≤ j + 2 by omega) (show dm + wS1 w + 1 + 1 + s ≤ j + 2 by omega) (by omega) (by omega) (by omega) (by omega)
        refine ⟨M4, N4, FrX_tr (FrX_tr fX2 u1 (by omega)) q1 (by omega), FrY_tr (FrY_tr fY2 u2 (by omega)) q2 (by omega), ?_⟩
        rw [v1, ob2_ok, v2, ob2_ok, ob2_ok, if_neg (fun e => nI_nm (show 0 < 2147483648 by omega) (of_decide_eq_true e))]
        rcases q3 with q3 | ⟨g3, i', cc', cm', r1, r2, r3, r4, r5, r6, r7, r8, r9⟩
        · exact Or.inl q3
        · exact Or.inr ⟨g3, i', cc', cm', r1, r2, r3, r4, by omega, by omega, r7, r8, by omega⟩
    by_cases e1 : (tkA tp n j).1 = 4 ∧ (tkA tp n j).2.1 = 43
    · have hv : N1 312 12 = nI 43 := by
        have := pz_mval k3 (by omega)
        rw [if_neg (by omega), e1.2] at this
        exact this
      have eM : SX z (ys + 1) N1 = ob1 (F_Mod_reads z N1) fun M16 => aftP z ys (some 0) (F_Mod_readProduct z M16) := by
        conv => lhs; unfold SX
        rw [L_Mod_readSum_1, p2, decide_eq_true e1, if_pos (Or.inl rfl), hv, if_pos rfl, ob1_ok]
        rfl
      rw [eM, decide_eq_true e1]
      exact go 0 (by omega) (by omega)
    · by_cases e2 : (tkA tp n j).1 = 4 ∧ (tkA tp n j).2.1 = 45
      · have hv : N1 312 12 = nI 45 := by
          have := pz_mval k3 (by omega)
          rw [if_neg (by omega), e2.2] at this
          exact this
        have eM : SX z (ys + 1) N1 = ob1 (F_Mod_reads z N1) fun M16 => aftP z ys (some 1) (F_Mod_readProduct z M16) := by
          conv => lhs; unfold SX
          rw [L_Mod_readSum_1, p4, decide_eq_true e2, if_pos (Or.inr rfl), hv, if_neg (by decide), ob1_ok]
          rfl
        rw [eM, decide_eq_false e1, decide_eq_true e2]
        exact go 1 (by omega) (by omega)
      · refine ⟨M1, N1, fX1, fY1, Or.inr ⟨g', j, _, _, ?_, ?_, k3, k6, by omega, by omega, by omega, by omega, c11⟩⟩
        · rw [decide_eq_false e1, decide_eq_false e2]
          rfl
        · unfold SX
          rw [L_Mod_readSum_1, p2, p4, if_neg]
          rintro (e | e)
          · exact e1 (of_decide_eq_true e)
          · exact e2 (of_decide_eq_true e)
/-- a whole sum -/
theorem b_expr (hz : 1000 ≤ z) (h : PZ tp n t i M N) (hx : XSt d b0 b1 cc cm fs M N) (hd : fs.length + 3 ≤ d) (hd2 : d ≤ 64) (hcc : cc + s ≤ i) (hcm : cm + s ≤ i) : ∃ M' N', FrX cc M M' ∧ FrY cm N N' ∧
    ((F_Reader_expression z M = some (false, M') ∧ F_Mod_readSum z N = some (-1, N') ∧ FQ M' N') ∨
     (∃ g i' cc' cm', F_Reader_expression z M = some (true, M') ∧ F_Mod_readSum z N = some (nI 0, N') ∧ PZ tp n t i' M' N' ∧ XSt d b0 b1 cc' cm' (g :: fs) M' N' ∧ cc ≤ cc' ∧ cm ≤ cm' ∧ cc' + s ≤ i' ∧ cm' + s ≤ i' ∧ i < i')) := by
  have eC : F_Reader_expression z M = ob2 (F_Reader_unit M) fun v1 M2 => LX z z (-1) v1 (nI 0) M2 := rfl
  rw [eC, sum_eq, prod_eq]
  obtain ⟨M3, N3, u1, u2, u3⟩ := b_unit (z := z) hz h hx (by omega) hd2 (by omega) (by omega)
  rcases u3 with ⟨v1, v2, v3⟩ | ⟨g2, v0, v1, v2, v3, v4⟩
  · obtain ⟨z', rfl⟩ : ∃ k, z = k + 1 := ⟨z - 1, by omega⟩
    refine ⟨M3, N3, u1, u2, Or.inl ⟨?_, aftP_fail ?_, v3⟩⟩
    · rw [v1, ob2_ok, LX_false]
    · rw [v2, ob2_ok, ob2_ok, if_pos (decide_eq_true rfl)]
  · obtain ⟨M4, N4, q1, q2, q3⟩ := b_sum (z := z) hz hd hd2 (t - (i + 1)) (i + 1) (cc + 1) (cm + 1) z z z 0 none g2 g2 M3 N3 (Nat.le_refl _) (fun k' e => by cases e) v3 v4 (show cc + 1 + 0 + s ≤ i + 1 by omega) (show cm + 1 + 0 + s ≤ i + 1 by omega) (by omega) (by omega) (by omega) (by omega)
    refine ⟨M4, N4, FrX_tr u1 q1 (by omega), FrY_tr u2 q2 (by omega), ?_⟩
    rw [v1, ob2_ok, v2, ob2_ok, ob2_ok, if_neg (fun e => nI_nm (show 0 < 2147483648 by omega) (of_decide_eq_true e))]
    rcases q3 with q3 | ⟨g3, i', cc', cm', r1, r2, r3, r4, r5, r6, r7, r8, r9⟩
    · exact Or.inl q3
    · exact Or.inr ⟨g3, i', cc', cm', r1, r2, r3, r4, by omega, by omega, r7, r8, by omega⟩
end SC5
