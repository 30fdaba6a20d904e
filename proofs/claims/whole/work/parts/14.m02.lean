/-! methods as functions: printed by program -/
section S142
variable {X : mXs} {d z : Nat} {Q : Option Value → mH → Prop}
def F_World_draw (w : Nat) (m_ : Int32) (M : mM) : Option (Int32 × mM) :=
  ob1 (some (((nI 1664525) * (M w 6)) + (nI 1013904223))) fun v1 =>
  ob1 (some (up M w 6 v1)) fun M3 =>
  ob1 (nz m_ (jrem (jushr (M3 w 6) (nI 8)) m_)) fun v5 =>
  some (v5, M3)
theorem s_World_draw {w : Nat} {m_ : Int32} {M : mM} {r : Int32} {M' : mM} (hw : isW w) (h : F_World_draw w m_ M = some (r, M')) (hq : Q (some (.int r)) (lay M')) : Sp X d f_World_draw [.ref w, .int m_] (lay M) Q := by
  refine Sp_of (by decide) rfl (Nat.le_of_ble_eq_true rfl) ?_
  refine wp_aload_n d_World_draw_0 rfl rfl ?_
  refine wp_ldc (v := nI 1664525) d_World_draw_1 lk_World_132 ?_
  refine wp_aload_n d_World_draw_3 rfl rfl ?_
  refine wl_getI d_World_draw_4 lf_World_40 (shW0 hw) rfl rfl ?_
  refine wp_imul d_World_draw_7 ?_
  refine wp_ldc (v := nI 1013904223) d_World_draw_8 lk_World_133 ?_
  refine wp_iadd d_World_draw_10 ?_
  obtain ⟨v1, e2, h⟩ := ob1_some h
  refine wx_int e2 ?_
  refine wl_put d_World_draw_11 lp_World_40 (shW0 hw) rfl ⟨rfl, rfl⟩ ?_
  obtain ⟨M3, e4, h⟩ := ob1_some h
  refine wx_M e4 ?_
  refine wp_aload_n d_World_draw_14 rfl rfl ?_
  refine wl_getI d_World_draw_15 lf_World_40 (shW0 hw) rfl rfl ?_
  refine wp_bipush d_World_draw_18 (v := nI 8) rfl ?_
  refine wp_iushr d_World_draw_20 (v := jushr (M3 w 6) (nI 8)) rfl ?_
  refine wp_iload_n d_World_draw_21 rfl rfl ?_
  obtain ⟨v5, e6, h⟩ := ob1_some h
  refine wq_irem d_World_draw_22 e6 ?_
  cases h
  exact wp_iret d_World_draw_23 rfl rfl rfl hq
def F_World_happens (w : Nat) (chance_ : Int32) (dreamt_ : Bool) (M : mM) : Option (Bool × mM) :=
  ob2 (if dreamt_ = true then
  some (decide (¬ (chance_ < (nI 500))), M)
  else
  ob2 (ob2 (F_World_draw w (nI 1000) M) fun v23 M24 =>
  some (decide (v23 < chance_), M24)) fun x20 M22 =>
  some (x20, M22)) fun v13 M15 =>
  some (v13, M15)
theorem s_World_happens {w : Nat} {chance_ : Int32} {dreamt_ : Bool} {M : mM} {r : Bool} {M' : mM} (hw : isW w) (h : F_World_happens w chance_ dreamt_ M = some (r, M')) (hq : Q (some (.int (bI r))) (lay M')) : Sp X (d + 1) f_World_happens [.ref w, .int chance_, .int (bI dreamt_)] (lay M) Q := by
  refine Sp_of (by decide) rfl (Nat.le_of_ble_eq_true rfl) ?_
  obtain ⟨v13, M15, e14, h⟩ := ob2_some h
  have k12 : wp X (d + 1) f_World_happens (0, 0) 35 [.ref w, .int chance_, .int (bI dreamt_)] [.int (bI v13)] (lay M15) Q := by
    cases h
    exact wb_iret d_World_happens_35 rfl rfl hq
  refine wp_iload_n d_World_happens_0 rfl rfl ?_
  refine wc_eq 19 d_World_happens_1 rfl (fun h1 => ?_) (fun h1 => ?_)
  · replace e14 := inn e14 h1
    obtain ⟨x20, M22, e21, e14⟩ := ob2_some e14
    have k19 : wp X (d + 1) f_World_happens (0, 0) 35 [.ref w, .int chance_, .int (bI dreamt_)] [.int (bI x20)] (lay M22) Q := by
      cases e14
      exact k12
    refine wp_aload_n d_World_happens_19 rfl rfl ?_
    refine wp_sipush d_World_happens_20 (v := nI 1000) rfl ?_
    obtain ⟨v23, M24, e25, e21⟩ := ob2_some e21
    refine wl_callV1 d_World_happens_23 lc_World_draw lv_World_134 rfl (shW0 hw) rfl rfl ⟨rfl, rfl⟩ ⟨by decide, by decide⟩ ?_
    refine s_World_draw (d := d) hw e25 ?_
    refine wp_iload_n d_World_happens_26 rfl rfl ?_
    refine wq_icmp_ge 34 d_World_happens_27 rfl (fun h27 => ?_) (fun h27 => ?_)
    · cases e21
      refine wp_iconst d_World_happens_34 (v := nI 0) rfl ?_
      exact wj_b0 (fun z => h27 (of_decide_eq_true z)) (k19)
    · cases e21
      refine wp_iconst d_World_happens_30 (v := nI 1) rfl ?_
      refine wp_goto 35 d_World_happens_31 rfl ?_
      exact wj_b1 (decide_eq_true h27) (k19)
  · replace e14 := ip e14 h1
    have k26 : wp X (d + 1) f_World_happens (0, 0) 35 [.ref w, .int chance_, .int (bI dreamt_)] [.int (bI (decide (¬ (chance_ < (nI 500)))))] (lay M) Q := by
      cases e14
      exact k12
    refine wp_iload_n d_World_happens_4 rfl rfl ?_
    refine wp_sipush d_World_happens_5 (v := nI 500) rfl ?_
    refine wq_icmp_lt 15 d_World_happens_8 rfl (fun h8 => ?_) (fun h8 => ?_)
    · refine wp_iconst d_World_happens_15 (v := nI 0) rfl ?_
      refine wp_goto 35 d_World_happens_16 rfl ?_
      exact wj_f (fun z => z h8) (k26)
    · refine wp_iconst d_World_happens_11 (v := nI 1) rfl ?_
      refine wp_goto 35 d_World_happens_12 rfl ?_
      exact wj_t h8 (k26)
def F_World_comeUp (z : Nat) (w : Nat) (l_law : Nat) (r_flight : Nat) (wd_flight : Nat) (mo_flight : Nat) (line_ : Int32) (dreamt_ : Bool) (M : mM) : Option mM :=
  ob1 (F_Rows_get r_flight wd_flight mo_flight line_ (nI 4) M) fun v1 =>
  ob1 (ob1 (ob1 (F_World_hasRoom w v1 M) fun v55 =>
  some (v55)) fun x53 => some (!x53)) fun x3 =>
  if x3 = true then
  some M
  else
  ob1 (F_Rows_get r_flight wd_flight mo_flight line_ (nI 1) M) fun v13 =>
  ob1 (F_Rows_get r_flight wd_flight mo_flight line_ (nI 2) M) fun v15 =>
  ob1 (F_Rows_get r_flight wd_flight mo_flight line_ (nI 3) M) fun v17 =>
  ob2 (F_World_newcomer w v13 v15 v17 v1 M) fun c19 M20 =>
  ob1 (gTh c19) fun _ =>
  ob2 (ob2 (F_Law_tells z l_law (nI 0) w c19 M20) fun v47 M48 =>
  ob2 (F_World_happens w v47 dreamt_ M48) fun v50 M51 =>
  some (v50, M51)) fun x23 M25 =>
  if x23 = true then
  ob2 (F_World_settle w c19 M25) fun v34 M35 =>
  ob1 (ra M35 (w + 1) 60 v1) fun v38 =>
  ob1 (some (F_Math_max (nI 0) (v38 - (M35 c19 2)))) fun v39 =>
  ob1 (wa M35 (w + 1) 60 v1 v39) fun M42 =>
  some M42
  else
  ob1 (F_World_write w (nI 1) (-1) v1 M25) fun M45 =>
  some M45
theorem s_World_comeUp {w : Nat} {l_law : Nat} {r_flight : Nat} {wd_flight : Nat} {mo_flight : Nat} {line_ : Int32} {dreamt_ : Bool} {M : mM} {M' : mM} (hw : isW w) (hl_law : isL l_law) (hr_flight : isR r_flight wd_flight mo_flight) (h : F_World_comeUp z w l_law r_flight wd_flight mo_flight line_ dreamt_ M = some M') (hq : Q none (lay M')) : Sp X (d + 5) f_World_comeUp [.ref w, .ref l_law, .ref r_flight, .int line_, .int (bI dreamt_)] (lay M) Q := by
  refine Sp_of (by decide) rfl (Nat.le_of_ble_eq_true rfl) ?_
  refine wp_aload_n d_World_comeUp_0 rfl rfl ?_
  refine wp_iload_n d_World_comeUp_1 rfl rfl ?_
  refine wp_iconst d_World_comeUp_2 (v := nI 4) rfl ?_
  obtain ⟨v1, e2, h⟩ := ob1_some h
  refine wl_callV2 d_World_comeUp_3 lc_Rows_get lv_World_143 rfl (isR0 hr_flight) rfl rfl ⟨rfl, rfl⟩ ⟨by decide, by decide⟩ ?_
  refine s_Rows_get (d := d + 4) hr_flight e2 ?_
  refine wp_istore d_World_comeUp_6 (by decide) ?_
  obtain ⟨x3, e4, h⟩ := ob1_some h
  have k9 : ∀ u6 : Value, x3 = true → wp X (d + 5) f_World_comeUp (0, 0) 17 [.ref w, .ref l_law, .ref r_flight, .int line_, .int (bI dreamt_), .int v1, u6] [] (lay M) Q := by
    intro u6 x10
    replace h := ip h x10
    cases h
    exact wp_ret d_World_comeUp_17 rfl rfl hq
  have k11 : ∀ u6 : Value, ¬ x3 = true → wp X (d + 5) f_World_comeUp (0, 0) 18 [.ref w, .ref l_law, .ref r_flight, .int line_, .int (bI dreamt_), .int v1, u6] [] (lay M) Q := by
    intro u6 x12
    replace h := inn h x12
    refine wp_aload_n d_World_comeUp_18 rfl rfl ?_
    refine wp_aload_n d_World_comeUp_19 rfl rfl ?_
    refine wp_iload_n d_World_comeUp_20 rfl rfl ?_
    refine wp_iconst d_World_comeUp_21 (v := nI 1) rfl ?_
    obtain ⟨v13, e14, h⟩ := ob1_some h
    refine wl_callV2 d_World_comeUp_22 lc_Rows_get lv_World_143 rfl (isR0 hr_flight) rfl rfl ⟨rfl, rfl⟩ ⟨by decide, by decide⟩ ?_
    refine s_Rows_get (d := d + 4) hr_flight e14 ?_
    refine wp_aload_n d_World_comeUp_25 rfl rfl ?_
    refine wp_iload_n d_World_comeUp_26 rfl rfl ?_
    refine wp_iconst d_World_comeUp_27 (v := nI 2) rfl ?_
    obtain ⟨v15, e16, h⟩ := ob1_some h
    refine wl_callV2 d_World_comeUp_28 lc_Rows_get lv_World_143 rfl (isR0 hr_flight) rfl rfl ⟨rfl, rfl⟩ ⟨by decide, by decide⟩ ?_
    refine s_Rows_get (d := d + 4) hr_flight e16 ?_
    refine wp_aload_n d_World_comeUp_31 rfl rfl ?_
    refine wp_iload_n d_World_comeUp_32 rfl rfl ?_
    refine wp_iconst d_World_comeUp_33 (v := nI 3) rfl ?_
    obtain ⟨v17, e18, h⟩ := ob1_some h
    refine wl_callV2 d_World_comeUp_34 lc_Rows_get lv_World_143 rfl (isR0 hr_flight) rfl rfl ⟨rfl, rfl⟩ ⟨by decide, by decide⟩ ?_
    refine s_Rows_get (d := d + 4) hr_flight e18 ?_
    refine wp_iload d_World_comeUp_37 rfl ?_
    obtain ⟨c19, M20, e21, h⟩ := ob2_some h
    refine wl_callV4 d_World_comeUp_39 lc_World_newcomer lv_World_177 rfl (shW0 hw) rfl rfl ⟨rfl, rfl⟩ ⟨by decide, by decide⟩ ?_
    refine s_World_newcomer (d := d + 3) hw e21 ?_
    obtain ⟨_, e22, h⟩ := ob1_some h
    have tc19 := gT_th e22
    refine wp_astore d_World_comeUp_42 (by decide) ?_
    obtain ⟨x23, M25, e24, h⟩ := ob2_some h
    have k32 : x23 = true → wp X (d + 5) f_World_comeUp (0, 0) 61 [.ref w, .ref l_law, .ref r_flight, .int line_, .int (bI dreamt_), .int v1, .ref c19] [] (lay M25) Q := by
      intro x33
      replace h := ip h x33
      refine wp_aload_n d_World_comeUp_61 rfl rfl ?_
      refine wp_aload d_World_comeUp_62 rfl ?_
      obtain ⟨v34, M35, e36, h⟩ := ob2_some h
      refine wl_callV1 d_World_comeUp_64 lc_World_settle lv_World_191 rfl (shW0 hw) rfl rfl ⟨rfl, rfl⟩ ⟨by decide, by decide⟩ ?_
      refine s_World_settle (d := d + 1) hw tc19 e36 ?_
      refine wp_pop d_World_comeUp_67 rfl ?_
      refine wp_aload_n d_World_comeUp_68 rfl rfl ?_
      refine wl_getR d_World_comeUp_69 lf_World_9 (shW0 hw) rfl ?_
      refine wp_iload d_World_comeUp_72 rfl ?_
      refine wp_iconst d_World_comeUp_74 (v := nI 0) rfl ?_
      refine wp_aload_n d_World_comeUp_75 rfl rfl ?_
      refine wl_getR d_World_comeUp_76 lf_World_9 (shW0 hw) rfl ?_
      refine wp_iload d_World_comeUp_79 rfl ?_
      obtain ⟨v38, e37, h⟩ := ob1_some h
      refine wa_ald d_World_comeUp_81 (shW1 hw) e37 ?_
      refine wp_aload d_World_comeUp_82 rfl ?_
      refine wl_getI d_World_comeUp_84 lf_World_105 (shTh tc19) rfl rfl ?_
      refine wp_isub d_World_comeUp_87 ?_
      refine wl_mmax d_World_comeUp_88 ls_World_171 rfl ⟨by decide, by decide⟩ ?_
      obtain ⟨v39, e40, h⟩ := ob1_some h
      refine wx_int e40 ?_
      obtain ⟨M42, e41, h⟩ := ob1_some h
      refine wa_ast d_World_comeUp_91 (shW1 hw) e41 ?_
      refine wp_goto 103 d_World_comeUp_92 rfl ?_
      cases h
      exact wp_ret d_World_comeUp_103 rfl rfl hq
    have k43 : ¬ x23 = true → wp X (d + 5) f_World_comeUp (0, 0) 95 [.ref w, .ref l_law, .ref r_flight, .int line_, .int (bI dreamt_), .int v1, .ref c19] [] (lay M25) Q := by
      intro x44
      replace h := inn h x44
      refine wp_aload_n d_World_comeUp_95 rfl rfl ?_
      refine wp_iconst d_World_comeUp_96 (v := nI 1) rfl ?_
      refine wp_iconst d_World_comeUp_97 (v := (-1)) rfl ?_
      refine wp_iload d_World_comeUp_98 rfl ?_
      obtain ⟨M45, e46, h⟩ := ob1_some h
      refine wl_callV3 d_World_comeUp_100 lc_World_write lv_World_120 rfl (shW0 hw) rfl rfl ⟨rfl, rfl⟩ ⟨by decide, by decide⟩ ?_
      refine s_World_write (d := d + 2) hw e46 ?_
      cases h
      exact wp_ret d_World_comeUp_103 rfl rfl hq
    refine wp_aload_n d_World_comeUp_44 rfl rfl ?_
    refine wp_aload_n d_World_comeUp_45 rfl rfl ?_
    refine wp_iconst d_World_comeUp_46 (v := nI 0) rfl ?_
    refine wp_aload_n d_World_comeUp_47 rfl rfl ?_
    refine wp_aload d_World_comeUp_48 rfl ?_
    obtain ⟨v47, M48, e49, e24⟩ := ob2_some e24
    refine wl_callV3 d_World_comeUp_50 lc_Law_tells lv_World_181 rfl (shL0 hl_law) rfl rfl ⟨rfl, rfl⟩ ⟨by decide, by decide⟩ ?_
    refine s_Law_tells (d := d) hl_law hw tc19 e49 ?_
    refine wp_iload d_World_comeUp_53 rfl ?_
    obtain ⟨v50, M51, e52, e24⟩ := ob2_some e24
    refine wl_callV2 d_World_comeUp_55 lc_World_happens lv_World_187 rfl (shW0 hw) rfl rfl ⟨rfl, rfl⟩ ⟨by decide, by decide⟩ ?_
    refine s_World_happens (d := d + 3) hw e52 ?_
    refine wc_eq 95 d_World_comeUp_58 rfl (fun h58 => ?_) (fun h58 => ?_)
    · cases e24
      exact k43 h58
    · cases e24
      exact k32 h58
  obtain ⟨x53, e54, e4⟩ := ob1_some e4
  cases e4
  refine wp_aload_n d_World_comeUp_8 rfl rfl ?_
  refine wp_iload d_World_comeUp_9 rfl ?_
  obtain ⟨v55, e56, e54⟩ := ob1_some e54
  refine wl_callV1 d_World_comeUp_11 lc_World_hasRoom lv_World_174 rfl (shW0 hw) rfl rfl ⟨rfl, rfl⟩ ⟨by decide, by decide⟩ ?_
  refine s_World_hasRoom (d := d + 4) hw e56 ?_
  refine wc_ne 18 d_World_comeUp_14 rfl (fun h14 => ?_) (fun h14 => ?_)
  · cases e54
    exact k11 _ (nb_t h14)
  · cases e54
    exact k9 _ (nb_f h14)
def L_World_growOld_1 (z : Nat) (w : Nat) : Nat → Int32 → mM → Option (mM)
  | 0, _, _ => none
  | n + 1, i_, M =>
    if i_ < (M w 5) then
    ob1 (rT M (w + 4) 20 i_) fun c2 =>
    ob1 (rT M (w + 4) 20 i_) fun c4 =>
    ob1 (some (F_Math_min (nI 999) ((M c4 5) + (nI 1)))) fun v5 =>
    ob1 (some (up M c2 5 v5)) fun M7 =>
    L_World_growOld_1 z w n (i_ + nI 1) M7
    else
    some (M)
def L_World_growOld_2 (z : Nat) (w : Nat) : Nat → Int32 → mM → Option (mM)
  | 0, _, _ => none
  | n + 1, i_, M =>
    if (i_ < (nI 60) ∧ (nI 4) < (M w 8)) then
    ob1 (ob1 (ob1 (ob1 (F_World_isTaken w i_ M) fun v53 =>
    some (v53)) fun x51 => some (!x51)) fun x35 =>
    if x35 = true then
    ob1 (ra M (w + 1) 60 i_) fun v44 =>
    ob1 (some (F_Math_max (nI 0) (v44 - (nI 1)))) fun v45 =>
    ob1 (wa M (w + 1) 60 i_ v45) fun M48 =>
    some (M48)
    else
    some (M)) fun M33 =>
    L_World_growOld_2 z w n (i_ + nI 1) M33
    else
    some (M)
def F_World_growOld (z : Nat) (w : Nat) (M : mM) : Option mM :=
  ob1 (L_World_growOld_1 z w z (nI 0) M) fun M9 =>
  ob1 (L_World_growOld_2 z w z (nI 0) M9) fun M55 =>
  ob1 (some (up M55 w 12 ((M55 w 12) + (nI 1)))) fun M56 =>
  some M56
theorem l_World_growOld_1 {w : Nat}  {N' : mM} (hw : isW w) (K : ∀ u1 : Value, wp X (d + 1) f_World_growOld (0, 0) 42 [.ref w, u1] [] (lay N') Q) : ∀ (n : Nat) (i_ : Int32) (M : mM), L_World_growOld_1 z w n i_ M = some (N') → wp X (d + 1) f_World_growOld (0, 0) 2 [.ref w, .int i_] [] (lay M) Q := by
  intro n
  induction n with
  | zero => intro i_ M h; exact nn h
  | succ n ih =>
    intro i_ M h
    refine wp_iload_n d_World_growOld_2 rfl rfl ?_
    refine wp_aload_n d_World_growOld_3 rfl rfl ?_
    refine wl_getI d_World_growOld_4 lf_World_36 (shW0 hw) rfl rfl ?_
    refine wq_icmp_ge 42 d_World_growOld_7 rfl (fun h7 => ?_) (fun h7 => ?_)
    · replace h := inn h h7
      cases h
      exact K _
    · replace h := ip h h7
      refine wp_aload_n d_World_growOld_10 rfl rfl ?_
      refine wl_getR d_World_growOld_11 lf_World_23 (shW0 hw) rfl ?_
      refine wp_iload_n d_World_growOld_14 rfl rfl ?_
      obtain ⟨c2, e1, h⟩ := ob1_some h
      have tc2 := rT_th e1
      refine wa_aald d_World_growOld_15 (shW4 hw) e1 ?_
      refine wp_sipush d_World_growOld_16 (v := nI 999) rfl ?_
      refine wp_aload_n d_World_growOld_19 rfl rfl ?_
      refine wl_getR d_World_growOld_20 lf_World_23 (shW0 hw) rfl ?_
      refine wp_iload_n d_World_growOld_23 rfl rfl ?_
      obtain ⟨c4, e3, h⟩ := ob1_some h
      have tc4 := rT_th e3
      refine wa_aald d_World_growOld_24 (shW4 hw) e3 ?_
      refine wl_getI d_World_growOld_25 lf_World_114 (shTh tc4) rfl rfl ?_
      refine wp_iconst d_World_growOld_28 (v := nI 1) rfl ?_
      refine wp_iadd d_World_growOld_29 ?_
      refine wl_mmin d_World_growOld_30 ls_World_96 rfl ⟨by decide, by decide⟩ ?_
      obtain ⟨v5, e6, h⟩ := ob1_some h
      refine wx_int e6 ?_
      refine wl_put d_World_growOld_33 lp_World_114 (shTh tc2) rfl ⟨rfl, rfl⟩ ?_
      obtain ⟨M7, e8, h⟩ := ob1_some h
      refine wx_M e8 ?_
      refine wp_iinc d_World_growOld_36 (v := i_ + nI 1) rfl rfl ?_
      refine wp_goto 2 d_World_growOld_39 rfl ?_
      exact ih _ _ h
theorem l_World_growOld_2 {w : Nat}  {N' : mM} (hw : isW w) (K : ∀ u1 : Value, wp X (d + 1) f_World_growOld (0, 0) 90 [.ref w, u1] [] (lay N') Q) : ∀ (n : Nat) (i_ : Int32) (M : mM), L_World_growOld_2 z w n i_ M = some (N') → wp X (d + 1) f_World_growOld (0, 0) 44 [.ref w, .int i_] [] (lay M) Q := by
  intro n
  induction n with
  | zero => intro i_ M h; exact nn h
  | succ n ih =>
    intro i_ M h
    have k10 : ¬ (i_ < (nI 60) ∧ (nI 4) < (M w 8)) → wp X (d + 1) f_World_growOld (0, 0) 90 [.ref w, .int i_] [] (lay M) Q := by
      intro x11
      replace h := inn h x11
      cases h
      exact K _
    refine wp_iload_n d_World_growOld_44 rfl rfl ?_
    refine wp_bipush d_World_growOld_45 (v := nI 60) rfl ?_
    refine wq_icmp_ge 90 d_World_growOld_47 rfl (fun h47 => ?_) (fun h47 => ?_)
    · exact k10 (fun z => h47 z.1)
    · refine wp_aload_n d_World_growOld_50 rfl rfl ?_
      refine wl_getI d_World_growOld_51 lf_World_46 (shW0 hw) rfl rfl ?_
      refine wp_iconst d_World_growOld_54 (v := nI 4) rfl ?_
      refine wq_icmp_le 90 d_World_growOld_55 rfl (fun h55 => ?_) (fun h55 => ?_)
      · exact k10 (fun z => h55 z.2)
      · replace h := ip h ⟨h47, h55⟩
        obtain ⟨M33, e34, h⟩ := ob1_some h
        have k32 : wp X (d + 1) f_World_growOld (0, 0) 84 [.ref w, .int i_] [] (lay M33) Q := by
          refine wp_iinc d_World_growOld_84 (v := i_ + nI 1) rfl rfl ?_
          refine wp_goto 44 d_World_growOld_87 rfl ?_
          exact ih _ _ h
        obtain ⟨x35, e36, e34⟩ := ob1_some e34
        have k41 : x35 = true → wp X (d + 1) f_World_growOld (0, 0) 66 [.ref w, .int i_] [] (lay M) Q := by
          intro x42
          replace e34 := ip e34 x42
          refine wp_aload_n d_World_growOld_66 rfl rfl ?_
          refine wl_getR d_World_growOld_67 lf_World_9 (shW0 hw) rfl ?_
          refine wp_iload_n d_World_growOld_70 rfl rfl ?_
          refine wp_iconst d_World_growOld_71 (v := nI 0) rfl ?_
          refine wp_aload_n d_World_growOld_72 rfl rfl ?_
          refine wl_getR d_World_growOld_73 lf_World_9 (shW0 hw) rfl ?_
          refine wp_iload_n d_World_growOld_76 rfl rfl ?_
          obtain ⟨v44, e43, e34⟩ := ob1_some e34
          refine wa_ald d_World_growOld_77 (shW1 hw) e43 ?_
          refine wp_iconst d_World_growOld_78 (v := nI 1) rfl ?_
          refine wp_isub d_World_growOld_79 ?_
          refine wl_mmax d_World_growOld_80 ls_World_171 rfl ⟨by decide, by decide⟩ ?_
          obtain ⟨v45, e46, e34⟩ := ob1_some e34
          refine wx_int e46 ?_
          obtain ⟨M48, e47, e34⟩ := ob1_some e34
          refine wa_ast d_World_growOld_83 (shW1 hw) e47 ?_
          cases e34
          exact k32
        have k49 : ¬ x35 = true → wp X (d + 1) f_World_growOld (0, 0) 84 [.ref w, .int i_] [] (lay M) Q := by
          intro x50
          replace e34 := inn e34 x50
          cases e34
          exact k32
        obtain ⟨x51, e52, e36⟩ := ob1_some e36
        cases e36
        refine wp_aload_n d_World_growOld_58 rfl rfl ?_
        refine wp_iload_n d_World_growOld_59 rfl rfl ?_
        obtain ⟨v53, e54, e52⟩ := ob1_some e52
        refine wl_callV1 d_World_growOld_60 lc_World_isTaken lv_World_81 rfl (shW0 hw) rfl rfl ⟨rfl, rfl⟩ ⟨by decide, by decide⟩ ?_
        refine s_World_isTaken (d := d) hw e54 ?_
        refine wc_ne 84 d_World_growOld_63 rfl (fun h63 => ?_) (fun h63 => ?_)
        · cases e52
          exact k49 (nb_t h63)
        · cases e52
          exact k41 (nb_f h63)
theorem s_World_growOld {w : Nat} {M : mM} {M' : mM} (hw : isW w) (h : F_World_growOld z w M = some M') (hq : Q none (lay M')) : Sp X (d + 1) f_World_growOld [.ref w] (lay M) Q := by
  refine Sp_of (by decide) rfl (Nat.le_of_ble_eq_true rfl) ?_
  refine wp_iconst d_World_growOld_0 (v := nI 0) rfl ?_
  refine wp_istore_n d_World_growOld_1 rfl (by decide) ?_
  obtain ⟨M9, e59, h⟩ := ob1_some h
  refine l_World_growOld_1 hw ?_ _ _ _ e59
  intro u1
  refine wp_iconst d_World_growOld_42 (v := nI 0) rfl ?_
  refine wp_istore_n d_World_growOld_43 rfl (by decide) ?_
  obtain ⟨M55, e58, h⟩ := ob1_some h
  refine l_World_growOld_2 hw ?_ _ _ _ e58
  intro u1
  refine wp_aload_n d_World_growOld_90 rfl rfl ?_
  refine wp_dup d_World_growOld_91 rfl ?_
  refine wl_getI d_World_growOld_92 lf_World_58 (shW0 hw) rfl rfl ?_
  refine wp_iconst d_World_growOld_95 (v := nI 1) rfl ?_
  refine wp_iadd d_World_growOld_96 ?_
  refine wl_put d_World_growOld_97 lp_World_58 (shW0 hw) rfl ⟨rfl, rfl⟩ ?_
  obtain ⟨M56, e57, h⟩ := ob1_some h
  refine wx_M e57 ?_
  cases h
  exact wp_ret d_World_growOld_100 rfl rfl hq
def L_World_slide_1 (z : Nat) (w : Nat) (l_law : Nat) (slot_ : Int32) (t_ : Nat) (steps_ : Int32) (kt : mM → Option mM) : Nat → Int32 → mM → Option mM
  | 0, _, _ => none
  | n + 1, n_, M =>
    ob1 (if n_ < steps_ then ob1 (ob1 (F_World_isTaken w ((M t_ 4) + (nI 1)) M) fun v40 =>
    some (v40)) fun x38 => some (!x38)
    else some (false)) fun x10 =>
    if x10 = true then
    ob1 (some (decide (¬ ((M t_ 4) < (nI 59))))) fun x18 =>
    if x18 = true then
    ob1 (some (up M w 10 ((M w 10) + (nI 1)))) fun M22 =>
    ob1 (F_World_write w (nI 4) (M22 t_ 0) (M22 t_ 4) M22) fun M24 =>
    ob1 (F_World_remove z w slot_ M24) fun M26 =>
    some M26
    else
    ob1 (wa M (w + 3) 60 (M t_ 4) (-1)) fun M31 =>
    ob1 (some (up M31 t_ 4 ((M31 t_ 4) + (nI 1)))) fun M32 =>
    ob1 (wa M32 (w + 3) 60 (M32 t_ 4) (M32 t_ 0)) fun M35 =>
    L_World_slide_1 z w l_law slot_ t_ steps_ kt n (n_ + nI 1) M35
    else
    kt M
def F_World_slide (z : Nat) (w : Nat) (l_law : Nat) (slot_ : Int32) (M : mM) : Option mM :=
  if slot_ = (-1) then
  some M
  else
  ob1 (rT M (w + 4) 20 slot_) fun c2 =>
  ob2 (F_Law_tells z l_law (nI 2) w c2 M) fun v3 M4 =>
  L_World_slide_1 z w l_law slot_ c2 v3 (fun (M42 : mM) =>
  some M42) z (nI 0) M4
theorem l_World_slide_1 {w : Nat} {l_law : Nat} {slot_ : Int32} {t_ : Nat} {steps_ : Int32} {kt : mM → Option mM}  {M' : mM} (hw : isW w) (hl_law : isL l_law) (tt_ : isTh t_ = true) (hq : Q none (lay M')) (K : ∀ (N1 : mM) (u5 : Value), kt  N1 = some M' → wp X (d + 5) f_World_slide (0, 0) 122 [.ref w, .ref l_law, .int slot_, .ref t_, .int steps_, u5] [] (lay N1) Q) : ∀ (n : Nat) (n_ : Int32) (M : mM), L_World_slide_1 z w l_law slot_ t_ steps_ kt n n_ M = some M' → wp X (d + 5) f_World_slide (0, 0) 25 [.ref w, .ref l_law, .int slot_, .ref t_, .int steps_, .int n_] [] (lay M) Q := by
  intro n
  induction n with
  | zero => intro n_ M h; exact nn h
  | succ n ih =>
    intro n_ M h
    obtain ⟨x10, e11, h⟩ := ob1_some h
    have k16 : x10 = true → wp X (d + 5) f_World_slide (0, 0) 45 [.ref w, .ref l_law, .int slot_, .ref t_, .int steps_, .int n_] [] (lay M) Q := by
      intro x17
      replace h := ip h x17
      obtain ⟨x18, e19, h⟩ := ob1_some h
      have k20 : x18 = true → wp X (d + 5) f_World_slide (0, 0) 54 [.ref w, .ref l_law, .int slot_, .ref t_, .int steps_, .int n_] [] (lay M) Q := by
        intro x21
        replace h := ip h x21
        refine wp_aload_n d_World_slide_54 rfl rfl ?_
        refine wp_dup d_World_slide_55 rfl ?_
        refine wl_getI d_World_slide_56 lf_World_52 (shW0 hw) rfl rfl ?_
        refine wp_iconst d_World_slide_59 (v := nI 1) rfl ?_
        refine wp_iadd d_World_slide_60 ?_
        refine wl_put d_World_slide_61 lp_World_52 (shW0 hw) rfl ⟨rfl, rfl⟩ ?_
        obtain ⟨M22, e23, h⟩ := ob1_some h
        refine wx_M e23 ?_
        refine wp_aload_n d_World_slide_64 rfl rfl ?_
        refine wp_iconst d_World_slide_65 (v := nI 4) rfl ?_
        refine wp_aload_n d_World_slide_66 rfl rfl ?_
        refine wl_getI d_World_slide_67 lf_World_85 (shTh tt_) rfl rfl ?_
        refine wp_aload_n d_World_slide_70 rfl rfl ?_
        refine wl_getI d_World_slide_71 lf_World_111 (shTh tt_) rfl rfl ?_
        obtain ⟨M24, e25, h⟩ := ob1_some h
        refine wl_callV3 d_World_slide_74 lc_World_write lv_World_120 rfl (shW0 hw) rfl rfl ⟨rfl, rfl⟩ ⟨by decide, by decide⟩ ?_
        refine s_World_write (d := d + 2) hw e25 ?_
        refine wp_aload_n d_World_slide_77 rfl rfl ?_
        refine wp_iload_n d_World_slide_78 rfl rfl ?_
        obtain ⟨M26, e27, h⟩ := ob1_some h
        refine wl_callV1 d_World_slide_79 lc_World_remove lv_World_124 rfl (shW0 hw) rfl rfl ⟨rfl, rfl⟩ ⟨by decide, by decide⟩ ?_
        refine s_World_remove (d := d + 4) hw e27 ?_
        cases h
        exact wp_ret d_World_slide_82 rfl rfl hq
      have k28 : ¬ x18 = true → wp X (d + 5) f_World_slide (0, 0) 83 [.ref w, .ref l_law, .int slot_, .ref t_, .int steps_, .int n_] [] (lay M) Q := by
        intro x29
        replace h := inn h x29
        refine wp_aload_n d_World_slide_83 rfl rfl ?_
        refine wl_getR d_World_slide_84 lf_World_18 (shW0 hw) rfl ?_
        refine wp_aload_n d_World_slide_87 rfl rfl ?_
        refine wl_getI d_World_slide_88 lf_World_111 (shTh tt_) rfl rfl ?_
        refine wp_iconst d_World_slide_91 (v := (-1)) rfl ?_
        obtain ⟨M31, e30, h⟩ := ob1_some h
        refine wa_ast d_World_slide_92 (shW3 hw) e30 ?_
        refine wp_aload_n d_World_slide_93 rfl rfl ?_
        refine wp_dup d_World_slide_94 rfl ?_
        refine wl_getI d_World_slide_95 lf_World_111 (shTh tt_) rfl rfl ?_
        refine wp_iconst d_World_slide_98 (v := nI 1) rfl ?_
        refine wp_iadd d_World_slide_99 ?_
        refine wl_put d_World_slide_100 lp_World_111 (shTh tt_) rfl ⟨rfl, rfl⟩ ?_
        obtain ⟨M32, e33, h⟩ := ob1_some h
        refine wx_M e33 ?_
        refine wp_aload_n d_World_slide_103 rfl rfl ?_
        refine wl_getR d_World_slide_104 lf_World_18 (shW0 hw) rfl ?_
        refine wp_aload_n d_World_slide_107 rfl rfl ?_
        refine wl_getI d_World_slide_108 lf_World_111 (shTh tt_) rfl rfl ?_
        refine wp_aload_n d_World_slide_111 rfl rfl ?_
        refine wl_getI d_World_slide_112 lf_World_85 (shTh tt_) rfl rfl ?_
        obtain ⟨M35, e34, h⟩ := ob1_some h
        refine wa_ast d_World_slide_115 (shW3 hw) e34 ?_
        refine wp_iinc d_World_slide_116 (v := n_ + nI 1) rfl rfl ?_
        refine wp_goto 25 d_World_slide_119 rfl ?_
        exact ih _ _ h
      refine wp_aload_n d_World_slide_45 rfl rfl ?_
      refine wl_getI d_World_slide_46 lf_World_111 (shTh tt_) rfl rfl ?_
      refine wp_bipush d_World_slide_49 (v := nI 59) rfl ?_
      refine wq_icmp_lt 83 d_World_slide_51 rfl (fun h51 => ?_) (fun h51 => ?_)
      · cases e19
        exact k28 (fun z => (fun z => z h51) (of_decide_eq_true z))
      · cases e19
        exact k20 (decide_eq_true h51)
    have k36 : ¬ x10 = true → wp X (d + 5) f_World_slide (0, 0) 122 [.ref w, .ref l_law, .int slot_, .ref t_, .int steps_, .int n_] [] (lay M) Q := by
      intro x37
      replace h := inn h x37
      exact K _ _ h
    refine wp_iload d_World_slide_25 rfl ?_
    refine wp_iload d_World_slide_27 rfl ?_
    refine wq_icmp_ge 122 d_World_slide_29 rfl (fun h29 => ?_) (fun h29 => ?_)
    · replace e11 := inn e11 h29
      cases e11
      exact k36 (fun z => Bool.noConfusion z)
    · replace e11 := ip e11 h29
      obtain ⟨x38, e39, e11⟩ := ob1_some e11
      cases e11
      refine wp_aload_n d_World_slide_32 rfl rfl ?_
      refine wp_aload_n d_World_slide_33 rfl rfl ?_
      refine wl_getI d_World_slide_34 lf_World_111 (shTh tt_) rfl rfl ?_
      refine wp_iconst d_World_slide_37 (v := nI 1) rfl ?_
      refine wp_iadd d_World_slide_38 ?_
      obtain ⟨v40, e41, e39⟩ := ob1_some e39
      refine wl_callV1 d_World_slide_39 lc_World_isTaken lv_World_81 rfl (shW0 hw) rfl rfl ⟨rfl, rfl⟩ ⟨by decide, by decide⟩ ?_
      refine s_World_isTaken (d := d + 4) hw e41 ?_
      refine wc_ne 122 d_World_slide_42 rfl (fun h42 => ?_) (fun h42 => ?_)
      · cases e39
        exact k36 (nb_t h42)
      · cases e39
        exact k16 (nb_f h42)
theorem s_World_slide {w : Nat} {l_law : Nat} {slot_ : Int32} {M : mM} {M' : mM} (hw : isW w) (hl_law : isL l_law) (h : F_World_slide z w l_law slot_ M = some M') (hq : Q none (lay M')) : Sp X (d + 5) f_World_slide [.ref w, .ref l_law, .int slot_] (lay M) Q := by
  refine Sp_of (by decide) rfl (Nat.le_of_ble_eq_true rfl) ?_
  refine wp_iload_n d_World_slide_0 rfl rfl ?_
  refine wp_iconst d_World_slide_1 (v := (-1)) rfl ?_
  refine wq_icmp_ne 6 d_World_slide_2 rfl (fun h2 => ?_) (fun h2 => ?_)
  · replace h := inn h h2
    refine wp_aload_n d_World_slide_6 rfl rfl ?_
    refine wl_getR d_World_slide_7 lf_World_23 (shW0 hw) rfl ?_
    refine wp_iload_n d_World_slide_10 rfl rfl ?_
    obtain ⟨c2, e1, h⟩ := ob1_some h
    have tc2 := rT_th e1
    refine wa_aald d_World_slide_11 (shW4 hw) e1 ?_
    refine wp_astore_n d_World_slide_12 rfl (by decide) ?_
    refine wp_aload_n d_World_slide_13 rfl rfl ?_
    refine wp_iconst d_World_slide_14 (v := nI 2) rfl ?_
    refine wp_aload_n d_World_slide_15 rfl rfl ?_
    refine wp_aload_n d_World_slide_16 rfl rfl ?_
    obtain ⟨v3, M4, e5, h⟩ := ob2_some h
    refine wl_callV3 d_World_slide_17 lc_Law_tells lv_World_181 rfl (shL0 hl_law) rfl rfl ⟨rfl, rfl⟩ ⟨by decide, by decide⟩ ?_
    refine s_Law_tells (d := d) hl_law hw tc2 e5 ?_
    refine wp_istore d_World_slide_20 (by decide) ?_
    refine wp_iconst d_World_slide_22 (v := nI 0) rfl ?_
    refine wp_istore d_World_slide_23 (by decide) ?_
    refine l_World_slide_1 hw hl_law tc2 hq ?_ _ _ _ h
    intro M42 u5 h
    cases h
    exact wp_ret d_World_slide_122 rfl rfl hq
  · replace h := ip h h2
    cases h
    exact wp_ret d_World_slide_5 rfl rfl hq
def F_World_struggle (z : Nat) (w : Nat) (l_law : Nat) (slot_ : Int32) (dreamt_ : Bool) (M : mM) : Option (Int32 × mM) :=
  ob1 (rT M (w + 4) 20 slot_) fun c2 =>
  ob2 (F_Law_tells z l_law (nI 1) w c2 M) fun v3 M4 =>
  ob2 (if ¬ ((nI 0) < v3) then some (true, M4)
  else ob2 (ob2 (F_World_happens w v3 dreamt_ M4) fun v46 M47 =>
  some (v46, M47)) fun x43 M45 => some (!x43, M45)) fun x6 M8 =>
  if x6 = true then
  some (slot_ + (nI 1), M8)
  else
  ob1 (some (decide (¬ ((nI 1) < (M8 c2 6))))) fun x19 =>
  if x19 = true then
  ob1 (some (up M8 w 10 ((M8 w 10) + (nI 1)))) fun M23 =>
  ob1 (F_World_write w (nI 3) (M23 c2 0) (M23 c2 4) M23) fun M25 =>
  ob1 (F_World_remove z w slot_ M25) fun M27 =>
  some (slot_, M27)
  else
  ob1 (some (up M8 c2 6 ((M8 c2 6) - (nI 1)))) fun M31 =>
  ob1 (ra M31 (w + 2) 60 (M31 c2 4)) fun v34 =>
  ob1 (wa M31 (w + 2) 60 (M31 c2 4) (v34 + (nI 1))) fun M36 =>
  ob1 (some (F_Math_max (nI 0) ((M36 c2 3) - (nI 1)))) fun v37 =>
  ob1 (some (up M36 c2 3 v37)) fun M39 =>
  ob1 (F_World_write w (nI 2) (M39 c2 0) (M39 c2 4) M39) fun M41 =>
  some (slot_ + (nI 1), M41)
theorem s_World_struggle {w : Nat} {l_law : Nat} {slot_ : Int32} {dreamt_ : Bool} {M : mM} {r : Int32} {M' : mM} (hw : isW w) (hl_law : isL l_law) (h : F_World_struggle z w l_law slot_ dreamt_ M = some (r, M')) (hq : Q (some (.int r)) (lay M')) : Sp X (d + 5) f_World_struggle [.ref w, .ref l_law, .int slot_, .int (bI dreamt_)] (lay M) Q := by
  refine Sp_of (by decide) rfl (Nat.le_of_ble_eq_true rfl) ?_
  refine wp_aload_n d_World_struggle_0 rfl rfl ?_
  refine wl_getR d_World_struggle_1 lf_World_23 (shW0 hw) rfl ?_
  refine wp_iload_n d_World_struggle_4 rfl rfl ?_
  obtain ⟨c2, e1, h⟩ := ob1_some h
  have tc2 := rT_th e1
  refine wa_aald d_World_struggle_5 (shW4 hw) e1 ?_
  refine wp_astore d_World_struggle_6 (by decide) ?_
  refine wp_aload_n d_World_struggle_8 rfl rfl ?_
  refine wp_iconst d_World_struggle_9 (v := nI 1) rfl ?_
  refine wp_aload_n d_World_struggle_10 rfl rfl ?_
  refine wp_aload d_World_struggle_11 rfl ?_
  obtain ⟨v3, M4, e5, h⟩ := ob2_some h
  refine wl_callV3 d_World_struggle_13 lc_Law_tells lv_World_181 rfl (shL0 hl_law) rfl rfl ⟨rfl, rfl⟩ ⟨by decide, by decide⟩ ?_
  refine s_Law_tells (d := d) hl_law hw tc2 e5 ?_
  refine wp_istore d_World_struggle_16 (by decide) ?_
  obtain ⟨x6, M8, e7, h⟩ := ob2_some h
  have k15 : x6 = true → wp X (d + 5) f_World_struggle (0, 0) 33 [.ref w, .ref l_law, .int slot_, .int (bI dreamt_), .ref c2, .int v3] [] (lay M8) Q := by
    intro x16
    replace h := ip h x16
    refine wp_iload_n d_World_struggle_33 rfl rfl ?_
    refine wp_iconst d_World_struggle_34 (v := nI 1) rfl ?_
    refine wp_iadd d_World_struggle_35 ?_
    cases h
    exact wp_iret d_World_struggle_36 rfl rfl rfl hq
  have k17 : ¬ x6 = true → wp X (d + 5) f_World_struggle (0, 0) 37 [.ref w, .ref l_law, .int slot_, .int (bI dreamt_), .ref c2, .int v3] [] (lay M8) Q := by
    intro x18
    replace h := inn h x18
    obtain ⟨x19, e20, h⟩ := ob1_some h
    have k21 : x19 = true → wp X (d + 5) f_World_struggle (0, 0) 46 [.ref w, .ref l_law, .int slot_, .int (bI dreamt_), .ref c2, .int v3] [] (lay M8) Q := by
      intro x22
      replace h := ip h x22
      refine wp_aload_n d_World_struggle_46 rfl rfl ?_
      refine wp_dup d_World_struggle_47 rfl ?_
      refine wl_getI d_World_struggle_48 lf_World_52 (shW0 hw) rfl rfl ?_
      refine wp_iconst d_World_struggle_51 (v := nI 1) rfl ?_
      refine wp_iadd d_World_struggle_52 ?_
      refine wl_put d_World_struggle_53 lp_World_52 (shW0 hw) rfl ⟨rfl, rfl⟩ ?_
      obtain ⟨M23, e24, h⟩ := ob1_some h
      refine wx_M e24 ?_
      refine wp_aload_n d_World_struggle_56 rfl rfl ?_
      refine wp_iconst d_World_struggle_57 (v := nI 3) rfl ?_
      refine wp_aload d_World_struggle_58 rfl ?_
      refine wl_getI d_World_struggle_60 lf_World_85 (shTh tc2) rfl rfl ?_
      refine wp_aload d_World_struggle_63 rfl ?_
      refine wl_getI d_World_struggle_65 lf_World_111 (shTh tc2) rfl rfl ?_
      obtain ⟨M25, e26, h⟩ := ob1_some h
      refine wl_callV3 d_World_struggle_68 lc_World_write lv_World_120 rfl (shW0 hw) rfl rfl ⟨rfl, rfl⟩ ⟨by decide, by decide⟩ ?_
      refine s_World_write (d := d + 2) hw e26 ?_
      refine wp_aload_n d_World_struggle_71 rfl rfl ?_
      refine wp_iload_n d_World_struggle_72 rfl rfl ?_
      obtain ⟨M27, e28, h⟩ := ob1_some h
      refine wl_callV1 d_World_struggle_73 lc_World_remove lv_World_124 rfl (shW0 hw) rfl rfl ⟨rfl, rfl⟩ ⟨by decide, by decide⟩ ?_
      refine s_World_remove (d := d + 4) hw e28 ?_
      refine wp_iload_n d_World_struggle_76 rfl rfl ?_
      cases h
      exact wp_iret d_World_struggle_77 rfl rfl rfl hq
    have k29 : ¬ x19 = true → wp X (d + 5) f_World_struggle (0, 0) 78 [.ref w, .ref l_law, .int slot_, .int (bI dreamt_), .ref c2, .int v3] [] (lay M8) Q := by
      intro x30
      replace h := inn h x30
      refine wp_aload d_World_struggle_78 rfl ?_
      refine wp_dup d_World_struggle_80 rfl ?_
      refine wl_getI d_World_struggle_81 lf_World_117 (shTh tc2) rfl rfl ?_
      refine wp_iconst d_World_struggle_84 (v := nI 1) rfl ?_
      refine wp_isub d_World_struggle_85 ?_
      refine wl_put d_World_struggle_86 lp_World_117 (shTh tc2) rfl ⟨rfl, rfl⟩ ?_
      obtain ⟨M31, e32, h⟩ := ob1_some h
      refine wx_M e32 ?_
      refine wp_aload_n d_World_struggle_89 rfl rfl ?_
      refine wl_getR d_World_struggle_90 lf_World_15 (shW0 hw) rfl ?_
      refine wp_aload d_World_struggle_93 rfl ?_
      refine wl_getI d_World_struggle_95 lf_World_111 (shTh tc2) rfl rfl ?_
      refine wp_dup2 d_World_struggle_98 rfl rfl ?_
      obtain ⟨v34, e33, h⟩ := ob1_some h
      refine wa_ald d_World_struggle_99 (shW2 hw) e33 ?_
      refine wp_iconst d_World_struggle_100 (v := nI 1) rfl ?_
      refine wp_iadd d_World_struggle_101 ?_
      obtain ⟨M36, e35, h⟩ := ob1_some h
      refine wa_ast d_World_struggle_102 (shW2 hw) e35 ?_
      refine wp_aload d_World_struggle_103 rfl ?_
      refine wp_iconst d_World_struggle_105 (v := nI 0) rfl ?_
      refine wp_aload d_World_struggle_106 rfl ?_
      refine wl_getI d_World_struggle_108 lf_World_108 (shTh tc2) rfl rfl ?_
      refine wp_iconst d_World_struggle_111 (v := nI 1) rfl ?_
      refine wp_isub d_World_struggle_112 ?_
      refine wl_mmax d_World_struggle_113 ls_World_171 rfl ⟨by decide, by decide⟩ ?_
      obtain ⟨v37, e38, h⟩ := ob1_some h
      refine wx_int e38 ?_
      refine wl_put d_World_struggle_116 lp_World_108 (shTh tc2) rfl ⟨rfl, rfl⟩ ?_
      obtain ⟨M39, e40, h⟩ := ob1_some h
      refine wx_M e40 ?_
      refine wp_aload_n d_World_struggle_119 rfl rfl ?_
      refine wp_iconst d_World_struggle_120 (v := nI 2) rfl ?_
      refine wp_aload d_World_struggle_121 rfl ?_
      refine wl_getI d_World_struggle_123 lf_World_85 (shTh tc2) rfl rfl ?_
      refine wp_aload d_World_struggle_126 rfl ?_
      refine wl_getI d_World_struggle_128 lf_World_111 (shTh tc2) rfl rfl ?_
      obtain ⟨M41, e42, h⟩ := ob1_some h
      refine wl_callV3 d_World_struggle_131 lc_World_write lv_World_120 rfl (shW0 hw) rfl rfl ⟨rfl, rfl⟩ ⟨by decide, by decide⟩ ?_
      refine s_World_write (d := d + 2) hw e42 ?_
      refine wp_iload_n d_World_struggle_134 rfl rfl ?_
      refine wp_iconst d_World_struggle_135 (v := nI 1) rfl ?_
      refine wp_iadd d_World_struggle_136 ?_
      cases h
      exact wp_iret d_World_struggle_137 rfl rfl rfl hq
    refine wp_aload d_World_struggle_37 rfl ?_
    refine wl_getI d_World_struggle_39 lf_World_117 (shTh tc2) rfl rfl ?_
    refine wp_iconst d_World_struggle_42 (v := nI 1) rfl ?_
    refine wq_icmp_gt 78 d_World_struggle_43 rfl (fun h43 => ?_) (fun h43 => ?_)
    · cases e20
      exact k29 (fun z => (fun z => z h43) (of_decide_eq_true z))
    · cases e20
      exact k21 (decide_eq_true h43)
  refine wp_iload d_World_struggle_18 rfl ?_
  refine wz_le 33 d_World_struggle_20 rfl (fun h20 => ?_) (fun h20 => ?_)
  · replace e7 := ip e7 h20
    cases e7
    exact k15 rfl
  · replace e7 := inn e7 (fun z => z h20)
    obtain ⟨x43, M45, e44, e7⟩ := ob2_some e7
    cases e7
    refine wp_aload_n d_World_struggle_23 rfl rfl ?_
    refine wp_iload d_World_struggle_24 rfl ?_
    refine wp_iload_n d_World_struggle_26 rfl rfl ?_
    obtain ⟨v46, M47, e48, e44⟩ := ob2_some e44
    refine wl_callV2 d_World_struggle_27 lc_World_happens lv_World_187 rfl (shW0 hw) rfl rfl ⟨rfl, rfl⟩ ⟨by decide, by decide⟩ ?_
    refine s_World_happens (d := d + 3) hw e48 ?_
    refine wc_ne 37 d_World_struggle_30 rfl (fun h30 => ?_) (fun h30 => ?_)
    · cases e44
      exact k17 (nb_t h30)
    · cases e44
      exact k15 (nb_f h30)
def L_World_weather_1 (z : Nat) (w : Nat) (a_ : Int32) : Nat → Int32 → mM → Option (mM)
  | 0, _, _ => none
  | n + 1, i_, M =>
    if i_ < (nI 60) then
    ob1 (ra M (w + 1) 60 i_) fun v4 =>
    ob1 (wa M (w + 1) 60 i_ (F_Math_max (nI 0) (v4 - a_))) fun M6 =>
    L_World_weather_1 z w a_ n (i_ + nI 1) M6
    else
    some (M)
def F_World_weather (z : Nat) (w : Nat) (word_ : Int32) (a_ : Int32) (b_ : Int32) (M : mM) : Option mM :=
  if word_ = (nI 14) then
  ob1 (some (up M w 7 a_)) fun M13 =>
  some M13
  else
  if word_ = (nI 15) then
  ob1 (some (up M w 8 a_)) fun M11 =>
  some M11
  else
  if ((word_ = (nI 26) ∧ ¬ (a_ < (nI 0))) ∧ a_ < (nI 60)) then
  ob1 (wa M (w + 1) 60 a_ b_) fun M10 =>
  some M10
  else
  if word_ = (nI 27) then
  ob1 (L_World_weather_1 z w a_ z (nI 0) M) fun M7 =>
  some M7
  else
  some M
theorem l_World_weather_1 {w : Nat} {a_ : Int32}  {q1 : Value} {q3 : Value} {N' : mM} (hw : isW w) (K : ∀ u4 : Value, wp X (d + 1) f_World_weather (0, 0) 96 [.ref w, q1, .int a_, q3, u4] [] (lay N') Q) : ∀ (n : Nat) (i_ : Int32) (M : mM), L_World_weather_1 z w a_ n i_ M = some (N') → wp X (d + 1) f_World_weather (0, 0) 63 [.ref w, q1, .int a_, q3, .int i_] [] (lay M) Q := by
  intro n
  induction n with
  | zero => intro i_ M h; exact nn h
  | succ n ih =>
    intro i_ M h
    refine wp_iload d_World_weather_63 rfl ?_
    refine wp_bipush d_World_weather_65 (v := nI 60) rfl ?_
    refine wq_icmp_ge 96 d_World_weather_67 rfl (fun h67 => ?_) (fun h67 => ?_)
    · replace h := inn h h67
      cases h
      exact K _
    · replace h := ip h h67
      refine wp_aload_n d_World_weather_70 rfl rfl ?_
      refine wl_getR d_World_weather_71 lf_World_9 (shW0 hw) rfl ?_
      refine wp_iload d_World_weather_74 rfl ?_
      refine wp_iconst d_World_weather_76 (v := nI 0) rfl ?_
      refine wp_aload_n d_World_weather_77 rfl rfl ?_
      refine wl_getR d_World_weather_78 lf_World_9 (shW0 hw) rfl ?_
      refine wp_iload d_World_weather_81 rfl ?_
      obtain ⟨v4, e3, h⟩ := ob1_some h
      refine wa_ald d_World_weather_83 (shW1 hw) e3 ?_
      refine wp_iload_n d_World_weather_84 rfl rfl ?_
      refine wp_isub d_World_weather_85 ?_
      refine wl_mmax d_World_weather_86 ls_World_171 rfl ⟨by decide, by decide⟩ ?_
      obtain ⟨M6, e5, h⟩ := ob1_some h
      refine wa_ast d_World_weather_89 (shW1 hw) e5 ?_
      refine wp_iinc d_World_weather_90 (v := i_ + nI 1) rfl rfl ?_
      refine wp_goto 63 d_World_weather_93 rfl ?_
      exact ih _ _ h
theorem s_World_weather {w : Nat} {word_ : Int32} {a_ : Int32} {b_ : Int32} {M : mM} {M' : mM} (hw : isW w) (h : F_World_weather z w word_ a_ b_ M = some M') (hq : Q none (lay M')) : Sp X (d + 1) f_World_weather [.ref w, .int word_, .int a_, .int b_] (lay M) Q := by
  refine Sp_of (by decide) rfl (Nat.le_of_ble_eq_true rfl) ?_
  refine wp_iload_n d_World_weather_0 rfl rfl ?_
  refine wp_bipush d_World_weather_1 (v := nI 14) rfl ?_
  refine wq_icmp_ne 14 d_World_weather_3 rfl (fun h3 => ?_) (fun h3 => ?_)
  · replace h := inn h h3
    refine wp_iload_n d_World_weather_14 rfl rfl ?_
    refine wp_bipush d_World_weather_15 (v := nI 15) rfl ?_
    refine wq_icmp_ne 28 d_World_weather_17 rfl (fun h17 => ?_) (fun h17 => ?_)
    · replace h := inn h h17
      have k1 : ∀ u4 : Value, ¬ ((word_ = (nI 26) ∧ ¬ (a_ < (nI 0))) ∧ a_ < (nI 60)) → wp X (d + 1) f_World_weather (0, 0) 54 [.ref w, .int word_, .int a_, .int b_, u4] [] (lay M) Q := by
        intro u4 x2
        replace h := inn h x2
        refine wp_iload_n d_World_weather_54 rfl rfl ?_
        refine wp_bipush d_World_weather_55 (v := nI 27) rfl ?_
        refine wq_icmp_ne 96 d_World_weather_57 rfl (fun h57 => ?_) (fun h57 => ?_)
        · replace h := inn h h57
          cases h
          exact wp_ret d_World_weather_96 rfl rfl hq
        · replace h := ip h h57
          refine wp_iconst d_World_weather_60 (v := nI 0) rfl ?_
          refine wp_istore d_World_weather_61 (by decide) ?_
          obtain ⟨M7, e8, h⟩ := ob1_some h
          refine l_World_weather_1 hw ?_ _ _ _ e8
          intro u4
          cases h
          exact wp_ret d_World_weather_96 rfl rfl hq
      refine wp_iload_n d_World_weather_28 rfl rfl ?_
      refine wp_bipush d_World_weather_29 (v := nI 26) rfl ?_
      refine wq_icmp_ne 54 d_World_weather_31 rfl (fun h31 => ?_) (fun h31 => ?_)
      · exact k1 _ (fun z => (fun z => h31 z.1) z.1)
      · refine wp_iload_n d_World_weather_34 rfl rfl ?_
        refine wz_lt 54 d_World_weather_35 rfl (fun h35 => ?_) (fun h35 => ?_)
        · exact k1 _ (fun z => (fun z => (fun z => z h35) z.2) z.1)
        · refine wp_iload_n d_World_weather_38 rfl rfl ?_
          refine wp_bipush d_World_weather_39 (v := nI 60) rfl ?_
          refine wq_icmp_ge 54 d_World_weather_41 rfl (fun h41 => ?_) (fun h41 => ?_)
          · exact k1 _ (fun z => h41 z.2)
          · replace h := ip h ⟨⟨h31, h35⟩, h41⟩
            refine wp_aload_n d_World_weather_44 rfl rfl ?_
            refine wl_getR d_World_weather_45 lf_World_9 (shW0 hw) rfl ?_
            refine wp_iload_n d_World_weather_48 rfl rfl ?_
            refine wp_iload_n d_World_weather_49 rfl rfl ?_
            obtain ⟨M10, e9, h⟩ := ob1_some h
            refine wa_ast d_World_weather_50 (shW1 hw) e9 ?_
            refine wp_goto 96 d_World_weather_51 rfl ?_
            cases h
            exact wp_ret d_World_weather_96 rfl rfl hq
    · replace h := ip h h17
      refine wp_aload_n d_World_weather_20 rfl rfl ?_
      refine wp_iload_n d_World_weather_21 rfl rfl ?_
      refine wl_put d_World_weather_22 lp_World_46 (shW0 hw) rfl ⟨rfl, rfl⟩ ?_
      obtain ⟨M11, e12, h⟩ := ob1_some h
      refine wx_M e12 ?_
      refine wp_goto 96 d_World_weather_25 rfl ?_
      cases h
      exact wp_ret d_World_weather_96 rfl rfl hq
  · replace h := ip h h3
    refine wp_aload_n d_World_weather_6 rfl rfl ?_
    refine wp_iload_n d_World_weather_7 rfl rfl ?_
    refine wl_put d_World_weather_8 lp_World_43 (shW0 hw) rfl ⟨rfl, rfl⟩ ?_
    obtain ⟨M13, e14, h⟩ := ob1_some h
    refine wx_M e14 ?_
    refine wp_goto 96 d_World_weather_11 rfl ?_
    cases h
    exact wp_ret d_World_weather_96 rfl rfl hq
def L_World_liveDay_1 (z : Nat) (w : Nat) (t_told : Nat) : Nat → Int32 → mM → Option (mM)
  | 0, _, _ => none
  | n + 1, i_, M =>
    if i_ < (M (t_told + 8) 3) then
    ob1 (ob1 (ob1 (F_Rows_get (t_told + 8) 5 16 i_ (nI 0) M) fun v38 =>
    some (decide (v38 = (M w 12)))) fun x22 =>
    if x22 = true then
    ob1 (F_Rows_get (t_told + 8) 5 16 i_ (nI 1) M) fun v28 =>
    ob1 (F_Rows_get (t_told + 8) 5 16 i_ (nI 2) M) fun v30 =>
    ob1 (F_Rows_get (t_told + 8) 5 16 i_ (nI 3) M) fun v32 =>
    ob1 (F_World_weather z w v28 v30 v32 M) fun M34 =>
    some (M34)
    else
    some (M)) fun M20 =>
    L_World_liveDay_1 z w t_told n (i_ + nI 1) M20
    else
    some (M)
def L_World_liveDay_2 (z : Nat) (w : Nat) (t_told : Nat) (dreamt_ : Bool) : Nat → Int32 → mM → Option (mM)
  | 0, _, _ => none
  | n + 1, i_, M =>
    if i_ < (M (t_told + 6) 3) then
    ob1 (ob1 (ob1 (F_Rows_get (t_told + 6) 5 16 i_ (nI 0) M) fun v66 =>
    some (decide (v66 = (M w 12)))) fun x56 =>
    if x56 = true then
    ob1 (F_World_comeUp z w (t_told + 1) (t_told + 6) 5 16 i_ dreamt_ M) fun M62 =>
    some (M62)
    else
    some (M)) fun M54 =>
    L_World_liveDay_2 z w t_told dreamt_ n (i_ + nI 1) M54
    else
    some (M)
def L_World_liveDay_3 (z : Nat) (w : Nat) (t_told : Nat) (dreamt_ : Bool) : Nat → Int32 → Int32 → mM → Option (Int32 × mM)
  | 0, _, _, _ => none
  | n + 1, slot_, n_, M =>
    if (n_ < (nI 20) ∧ slot_ < (M w 5)) then
    ob2 (F_World_struggle z w (t_told + 1) slot_ dreamt_ M) fun v71 M72 =>
    L_World_liveDay_3 z w t_told dreamt_ n v71 (n_ + nI 1) M72
    else
    some (slot_, M)
def L_World_liveDay_4 (z : Nat) (w : Nat) (t_told : Nat) : Nat → Int32 → mM → Option (mM)
  | 0, _, _ => none
  | n + 1, i_, M =>
    if ¬ (i_ < (nI 0)) then
    ob1 (ob1 (ob1 (F_World_isTaken w i_ M) fun v109 =>
    some (v109)) fun x95 =>
    if x95 = true then
    ob1 (ra M (w + 3) 60 i_) fun v102 =>
    ob1 (F_World_slotOf z w v102 M) fun v103 =>
    ob1 (F_World_slide z w (t_told + 1) v103 M) fun M105 =>
    some (M105)
    else
    some (M)) fun M93 =>
    L_World_liveDay_4 z w t_told n (i_ + (-1)) M93
    else
    some (M)
def F_World_liveDay (z : Nat) (w : Nat) (t_told : Nat) (dreamt_ : Bool) (M : mM) : Option mM :=
  ob1 (L_World_liveDay_1 z w t_told z (nI 0) M) fun M40 =>
  ob1 (L_World_liveDay_2 z w t_told dreamt_ z (nI 0) M40) fun M68 =>
  ob2 (L_World_liveDay_3 z w t_told dreamt_ z (nI 0) (nI 0) M68) fun slot_74 M75 =>
  ob1 (L_World_liveDay_4 z w t_told z (nI 59) M75) fun M111 =>
  ob1 (F_World_growOld z w M111) fun M112 =>
  some M112
theorem l_World_liveDay_1 {w : Nat} {t_told : Nat}  {q2 : Value} {N' : mM} (hw : isW w) (ht_told : isTd t_told) (K : ∀ u3 u4 : Value, wp X (d + 6) f_World_liveDay (0, 0) 66 [.ref w, .ref t_told, q2, u3, u4] [] (lay N') Q) : ∀ (n : Nat) (i_ : Int32) (M : mM) (u4 : Value), L_World_liveDay_1 z w t_told n i_ M = some (N') → wp X (d + 6) f_World_liveDay (0, 0) 2 [.ref w, .ref t_told, q2, .int i_, u4] [] (lay M) Q := by
  intro n
  induction n with
  | zero => intro i_ M u4 h; exact nn h
  | succ n ih =>
    intro i_ M u4 h
    refine wp_iload_n d_World_liveDay_2 rfl rfl ?_
    refine wp_aload_n d_World_liveDay_3 rfl rfl ?_
    refine wl_getR d_World_liveDay_4 lf_World_137 (shT0 ht_told) rfl ?_
    refine wl_getI d_World_liveDay_7 lf_World_142 (isR0 (isR_sky ht_told)) rfl rfl ?_
    refine wq_icmp_ge 66 d_World_liveDay_10 rfl (fun h10 => ?_) (fun h10 => ?_)
    · replace h := inn h h10
      cases h
      exact K _ _
    · replace h := ip h h10
      obtain ⟨M20, e21, h⟩ := ob1_some h
      have k19 : ∀ u4 : Value, wp X (d + 6) f_World_liveDay (0, 0) 60 [.ref w, .ref t_told, q2, .int i_, u4] [] (lay M20) Q := by
        intro u4
        refine wp_iinc d_World_liveDay_60 (v := i_ + nI 1) rfl rfl ?_
        refine wp_goto 2 d_World_liveDay_63 rfl ?_
        exact ih _ _ _ h
      obtain ⟨x22, e23, e21⟩ := ob1_some e21
      have k26 : ∀ u4 : Value, x22 = true → wp X (d + 6) f_World_liveDay (0, 0) 29 [.ref w, .ref t_told, q2, .int i_, u4] [] (lay M) Q := by
        intro u4 x27
        replace e21 := ip e21 x27
        refine wp_aload_n d_World_liveDay_29 rfl rfl ?_
        refine wp_aload_n d_World_liveDay_30 rfl rfl ?_
        refine wl_getR d_World_liveDay_31 lf_World_137 (shT0 ht_told) rfl ?_
        refine wp_iload_n d_World_liveDay_34 rfl rfl ?_
        refine wp_iconst d_World_liveDay_35 (v := nI 1) rfl ?_
        obtain ⟨v28, e29, e21⟩ := ob1_some e21
        refine wl_callV2 d_World_liveDay_36 lc_Rows_get lv_World_143 rfl (isR0 (isR_sky ht_told)) rfl rfl ⟨rfl, rfl⟩ ⟨by decide, by decide⟩ ?_
        refine s_Rows_get (d := d + 5) (isR_sky ht_told) e29 ?_
        refine wp_aload_n d_World_liveDay_39 rfl rfl ?_
        refine wl_getR d_World_liveDay_40 lf_World_137 (shT0 ht_told) rfl ?_
        refine wp_iload_n d_World_liveDay_43 rfl rfl ?_
        refine wp_iconst d_World_liveDay_44 (v := nI 2) rfl ?_
        obtain ⟨v30, e31, e21⟩ := ob1_some e21
        refine wl_callV2 d_World_liveDay_45 lc_Rows_get lv_World_143 rfl (isR0 (isR_sky ht_told)) rfl rfl ⟨rfl, rfl⟩ ⟨by decide, by decide⟩ ?_
        refine s_Rows_get (d := d + 5) (isR_sky ht_told) e31 ?_
        refine wp_aload_n d_World_liveDay_48 rfl rfl ?_
        refine wl_getR d_World_liveDay_49 lf_World_137 (shT0 ht_told) rfl ?_
        refine wp_iload_n d_World_liveDay_52 rfl rfl ?_
        refine wp_iconst d_World_liveDay_53 (v := nI 3) rfl ?_
        obtain ⟨v32, e33, e21⟩ := ob1_some e21
        refine wl_callV2 d_World_liveDay_54 lc_Rows_get lv_World_143 rfl (isR0 (isR_sky ht_told)) rfl rfl ⟨rfl, rfl⟩ ⟨by decide, by decide⟩ ?_
        refine s_Rows_get (d := d + 5) (isR_sky ht_told) e33 ?_
        obtain ⟨M34, e35, e21⟩ := ob1_some e21
        refine wl_callV3 d_World_liveDay_57 lc_World_weather lv_World_146 rfl (shW0 hw) rfl rfl ⟨rfl, rfl⟩ ⟨by decide, by decide⟩ ?_
        refine s_World_weather (d := d + 4) hw e35 ?_
        cases e21
        exact k19 _
      have k36 : ∀ u4 : Value, ¬ x22 = true → wp X (d + 6) f_World_liveDay (0, 0) 60 [.ref w, .ref t_told, q2, .int i_, u4] [] (lay M) Q := by
        intro u4 x37
        replace e21 := inn e21 x37
        cases e21
        exact k19 _
      refine wp_aload_n d_World_liveDay_13 rfl rfl ?_
      refine wl_getR d_World_liveDay_14 lf_World_137 (shT0 ht_told) rfl ?_
      refine wp_iload_n d_World_liveDay_17 rfl rfl ?_
      refine wp_iconst d_World_liveDay_18 (v := nI 0) rfl ?_
      obtain ⟨v38, e39, e23⟩ := ob1_some e23
      refine wl_callV2 d_World_liveDay_19 lc_Rows_get lv_World_143 rfl (isR0 (isR_sky ht_told)) rfl rfl ⟨rfl, rfl⟩ ⟨by decide, by decide⟩ ?_
      refine s_Rows_get (d := d + 5) (isR_sky ht_told) e39 ?_
      refine wp_aload_n d_World_liveDay_22 rfl rfl ?_
      refine wl_getI d_World_liveDay_23 lf_World_58 (shW0 hw) rfl rfl ?_
      refine wq_icmp_ne 60 d_World_liveDay_26 rfl (fun h26 => ?_) (fun h26 => ?_)
      · cases e23
        exact k36 _ (fun z => h26 (of_decide_eq_true z))
      · cases e23
        exact k26 _ (decide_eq_true h26)
theorem l_World_liveDay_2 {w : Nat} {t_told : Nat} {dreamt_ : Bool}  {N' : mM} (hw : isW w) (ht_told : isTd t_told) (K : ∀ u3 u4 : Value, wp X (d + 6) f_World_liveDay (0, 0) 115 [.ref w, .ref t_told, .int (bI dreamt_), u3, u4] [] (lay N') Q) : ∀ (n : Nat) (i_ : Int32) (M : mM) (u4 : Value), L_World_liveDay_2 z w t_told dreamt_ n i_ M = some (N') → wp X (d + 6) f_World_liveDay (0, 0) 68 [.ref w, .ref t_told, .int (bI dreamt_), .int i_, u4] [] (lay M) Q := by
  intro n
  induction n with
  | zero => intro i_ M u4 h; exact nn h
  | succ n ih =>
    intro i_ M u4 h
    refine wp_iload_n d_World_liveDay_68 rfl rfl ?_
    refine wp_aload_n d_World_liveDay_69 rfl rfl ?_
    refine wl_getR d_World_liveDay_70 lf_World_149 (shT0 ht_told) rfl ?_
    refine wl_getI d_World_liveDay_73 lf_World_142 (isR0 (isR_flight ht_told)) rfl rfl ?_
    refine wq_icmp_ge 115 d_World_liveDay_76 rfl (fun h76 => ?_) (fun h76 => ?_)
    · replace h := inn h h76
      cases h
      exact K _ _
    · replace h := ip h h76
      obtain ⟨M54, e55, h⟩ := ob1_some h
      have k53 : ∀ u4 : Value, wp X (d + 6) f_World_liveDay (0, 0) 109 [.ref w, .ref t_told, .int (bI dreamt_), .int i_, u4] [] (lay M54) Q := by
        intro u4
        refine wp_iinc d_World_liveDay_109 (v := i_ + nI 1) rfl rfl ?_
        refine wp_goto 68 d_World_liveDay_112 rfl ?_
        exact ih _ _ _ h
      obtain ⟨x56, e57, e55⟩ := ob1_some e55
      have k60 : ∀ u4 : Value, x56 = true → wp X (d + 6) f_World_liveDay (0, 0) 95 [.ref w, .ref t_told, .int (bI dreamt_), .int i_, u4] [] (lay M) Q := by
        intro u4 x61
        replace e55 := ip e55 x61
        refine wp_aload_n d_World_liveDay_95 rfl rfl ?_
        refine wp_aload_n d_World_liveDay_96 rfl rfl ?_
        refine wl_getR d_World_liveDay_97 lf_World_152 (shT0 ht_told) rfl ?_
        refine wp_aload_n d_World_liveDay_100 rfl rfl ?_
        refine wl_getR d_World_liveDay_101 lf_World_149 (shT0 ht_told) rfl ?_
        refine wp_iload_n d_World_liveDay_104 rfl rfl ?_
        refine wp_iload_n d_World_liveDay_105 rfl rfl ?_
        obtain ⟨M62, e63, e55⟩ := ob1_some e55
        refine wl_callV4 d_World_liveDay_106 lc_World_comeUp lv_World_156 rfl (shW0 hw) rfl rfl ⟨rfl, rfl⟩ ⟨by decide, by decide⟩ ?_
        refine s_World_comeUp (d := d) hw (isL_of ht_told) (isR_flight ht_told) e63 ?_
        cases e55
        exact k53 _
      have k64 : ∀ u4 : Value, ¬ x56 = true → wp X (d + 6) f_World_liveDay (0, 0) 109 [.ref w, .ref t_told, .int (bI dreamt_), .int i_, u4] [] (lay M) Q := by
        intro u4 x65
        replace e55 := inn e55 x65
        cases e55
        exact k53 _
      refine wp_aload_n d_World_liveDay_79 rfl rfl ?_
      refine wl_getR d_World_liveDay_80 lf_World_149 (shT0 ht_told) rfl ?_
      refine wp_iload_n d_World_liveDay_83 rfl rfl ?_
      refine wp_iconst d_World_liveDay_84 (v := nI 0) rfl ?_
      obtain ⟨v66, e67, e57⟩ := ob1_some e57
      refine wl_callV2 d_World_liveDay_85 lc_Rows_get lv_World_143 rfl (isR0 (isR_flight ht_told)) rfl rfl ⟨rfl, rfl⟩ ⟨by decide, by decide⟩ ?_
      refine s_Rows_get (d := d + 5) (isR_flight ht_told) e67 ?_
      refine wp_aload_n d_World_liveDay_88 rfl rfl ?_
      refine wl_getI d_World_liveDay_89 lf_World_58 (shW0 hw) rfl rfl ?_
      refine wq_icmp_ne 109 d_World_liveDay_92 rfl (fun h92 => ?_) (fun h92 => ?_)
      · cases e57
        exact k64 _ (fun z => h92 (of_decide_eq_true z))
      · cases e57
        exact k60 _ (decide_eq_true h92)
theorem l_World_liveDay_3 {w : Nat} {t_told : Nat} {dreamt_ : Bool}  {slot_r : Int32} {N' : mM} (hw : isW w) (ht_told : isTd t_told) (K : ∀ u4 : Value, wp X (d + 6) f_World_liveDay (0, 0) 152 [.ref w, .ref t_told, .int (bI dreamt_), .int slot_r, u4] [] (lay N') Q) : ∀ (n : Nat) (slot_ : Int32) (n_ : Int32) (M : mM), L_World_liveDay_3 z w t_told dreamt_ n slot_ n_ M = some (slot_r, N') → wp X (d + 6) f_World_liveDay (0, 0) 120 [.ref w, .ref t_told, .int (bI dreamt_), .int slot_, .int n_] [] (lay M) Q := by
  intro n
  induction n with
  | zero => intro slot_ n_ M h; exact nn h
  | succ n ih =>
    intro slot_ n_ M h
    have k69 : ¬ (n_ < (nI 20) ∧ slot_ < (M w 5)) → wp X (d + 6) f_World_liveDay (0, 0) 152 [.ref w, .ref t_told, .int (bI dreamt_), .int slot_, .int n_] [] (lay M) Q := by
      intro x70
      replace h := inn h x70
      cases h
      exact K _
    refine wp_iload d_World_liveDay_120 rfl ?_
    refine wp_bipush d_World_liveDay_122 (v := nI 20) rfl ?_
    refine wq_icmp_ge 152 d_World_liveDay_124 rfl (fun h124 => ?_) (fun h124 => ?_)
    · exact k69 (fun z => h124 z.1)
    · refine wp_iload_n d_World_liveDay_127 rfl rfl ?_
      refine wp_aload_n d_World_liveDay_128 rfl rfl ?_
      refine wl_getI d_World_liveDay_129 lf_World_36 (shW0 hw) rfl rfl ?_
      refine wq_icmp_ge 152 d_World_liveDay_132 rfl (fun h132 => ?_) (fun h132 => ?_)
      · exact k69 (fun z => h132 z.2)
      · replace h := ip h ⟨h124, h132⟩
        refine wp_aload_n d_World_liveDay_135 rfl rfl ?_
        refine wp_aload_n d_World_liveDay_136 rfl rfl ?_
        refine wl_getR d_World_liveDay_137 lf_World_152 (shT0 ht_told) rfl ?_
        refine wp_iload_n d_World_liveDay_140 rfl rfl ?_
        refine wp_iload_n d_World_liveDay_141 rfl rfl ?_
        obtain ⟨v71, M72, e73, h⟩ := ob2_some h
        refine wl_callV3 d_World_liveDay_142 lc_World_struggle lv_World_160 rfl (shW0 hw) rfl rfl ⟨rfl, rfl⟩ ⟨by decide, by decide⟩ ?_
        refine s_World_struggle (d := d) hw (isL_of ht_told) e73 ?_
        refine wp_istore_n d_World_liveDay_145 rfl (by decide) ?_
        refine wp_iinc d_World_liveDay_146 (v := n_ + nI 1) rfl rfl ?_
        refine wp_goto 120 d_World_liveDay_149 rfl ?_
        exact ih _ _ _ h
theorem l_World_liveDay_4 {w : Nat} {t_told : Nat}  {q2 : Value} {q3 : Value} {N' : mM} (hw : isW w) (ht_told : isTd t_told) (K : ∀ u4 : Value, wp X (d + 6) f_World_liveDay (0, 0) 195 [.ref w, .ref t_told, q2, q3, u4] [] (lay N') Q) : ∀ (n : Nat) (i_ : Int32) (M : mM), L_World_liveDay_4 z w t_told n i_ M = some (N') → wp X (d + 6) f_World_liveDay (0, 0) 156 [.ref w, .ref t_told, q2, q3, .int i_] [] (lay M) Q := by
  intro n
  induction n with
  | zero => intro i_ M h; exact nn h
  | succ n ih =>
    intro i_ M h
    refine wp_iload d_World_liveDay_156 rfl ?_
    refine wz_lt 195 d_World_liveDay_158 rfl (fun h158 => ?_) (fun h158 => ?_)
    · replace h := inn h (fun z => z h158)
      cases h
      exact K _
    · replace h := ip h h158
      obtain ⟨M93, e94, h⟩ := ob1_some h
      have k92 : wp X (d + 6) f_World_liveDay (0, 0) 189 [.ref w, .ref t_told, q2, q3, .int i_] [] (lay M93) Q := by
        refine wp_iinc d_World_liveDay_189 (v := i_ + (-1)) rfl rfl ?_
        refine wp_goto 156 d_World_liveDay_192 rfl ?_
        exact ih _ _ h
      obtain ⟨x95, e96, e94⟩ := ob1_some e94
      have k99 : x95 = true → wp X (d + 6) f_World_liveDay (0, 0) 170 [.ref w, .ref t_told, q2, q3, .int i_] [] (lay M) Q := by
        intro x100
        replace e94 := ip e94 x100
        refine wp_aload_n d_World_liveDay_170 rfl rfl ?_
        refine wp_aload_n d_World_liveDay_171 rfl rfl ?_
        refine wl_getR d_World_liveDay_172 lf_World_152 (shT0 ht_told) rfl ?_
        refine wp_aload_n d_World_liveDay_175 rfl rfl ?_
        refine wp_aload_n d_World_liveDay_176 rfl rfl ?_
        refine wl_getR d_World_liveDay_177 lf_World_18 (shW0 hw) rfl ?_
        refine wp_iload d_World_liveDay_180 rfl ?_
        obtain ⟨v102, e101, e94⟩ := ob1_some e94
        refine wa_ald d_World_liveDay_182 (shW3 hw) e101 ?_
        obtain ⟨v103, e104, e94⟩ := ob1_some e94
        refine wl_callV1 d_World_liveDay_183 lc_World_slotOf lv_World_88 rfl (shW0 hw) rfl rfl ⟨rfl, rfl⟩ ⟨by decide, by decide⟩ ?_
        refine s_World_slotOf (d := d + 5) hw e104 ?_
        obtain ⟨M105, e106, e94⟩ := ob1_some e94
        refine wl_callV2 d_World_liveDay_186 lc_World_slide lv_World_164 rfl (shW0 hw) rfl rfl ⟨rfl, rfl⟩ ⟨by decide, by decide⟩ ?_
        refine s_World_slide (d := d) hw (isL_of ht_told) e106 ?_
        cases e94
        exact k92
      have k107 : ¬ x95 = true → wp X (d + 6) f_World_liveDay (0, 0) 189 [.ref w, .ref t_told, q2, q3, .int i_] [] (lay M) Q := by
        intro x108
        replace e94 := inn e94 x108
        cases e94
        exact k92
      refine wp_aload_n d_World_liveDay_161 rfl rfl ?_
      refine wp_iload d_World_liveDay_162 rfl ?_
      obtain ⟨v109, e110, e96⟩ := ob1_some e96
      refine wl_callV1 d_World_liveDay_164 lc_World_isTaken lv_World_81 rfl (shW0 hw) rfl rfl ⟨rfl, rfl⟩ ⟨by decide, by decide⟩ ?_
      refine s_World_isTaken (d := d + 5) hw e110 ?_
      refine wc_eq 189 d_World_liveDay_167 rfl (fun h167 => ?_) (fun h167 => ?_)
      · cases e96
        exact k107 h167
      · cases e96
        exact k99 h167
theorem s_World_liveDay {w : Nat} {t_told : Nat} {dreamt_ : Bool} {M : mM} {M' : mM} (hw : isW w) (ht_told : isTd t_told) (h : F_World_liveDay z w t_told dreamt_ M = some M') (hq : Q none (lay M')) : Sp X (d + 6) f_World_liveDay [.ref w, .ref t_told, .int (bI dreamt_)] (lay M) Q := by
  refine Sp_of (by decide) rfl (Nat.le_of_ble_eq_true rfl) ?_
  refine wp_iconst d_World_liveDay_0 (v := nI 0) rfl ?_
  refine wp_istore_n d_World_liveDay_1 rfl (by decide) ?_
  obtain ⟨M40, e117, h⟩ := ob1_some h
  refine l_World_liveDay_1 hw ht_told ?_ _ _ _ _ e117
  intro u3 u4
  refine wp_iconst d_World_liveDay_66 (v := nI 0) rfl ?_
  refine wp_istore_n d_World_liveDay_67 rfl (by decide) ?_
  obtain ⟨M68, e116, h⟩ := ob1_some h
  refine l_World_liveDay_2 hw ht_told ?_ _ _ _ _ e116
  intro u3 u4
  refine wp_iconst d_World_liveDay_115 (v := nI 0) rfl ?_
  refine wp_istore_n d_World_liveDay_116 rfl (by decide) ?_
  refine wp_iconst d_World_liveDay_117 (v := nI 0) rfl ?_
  refine wp_istore d_World_liveDay_118 (by decide) ?_
  obtain ⟨slot_74, M75, e115, h⟩ := ob2_some h
  refine l_World_liveDay_3 hw ht_told ?_ _ _ _ _ e115
  intro u4
  refine wp_bipush d_World_liveDay_152 (v := nI 59) rfl ?_
  refine wp_istore d_World_liveDay_154 (by decide) ?_
  obtain ⟨M111, e114, h⟩ := ob1_some h
  refine l_World_liveDay_4 hw ht_told ?_ _ _ _ e114
  intro u4
  refine wp_aload_n d_World_liveDay_195 rfl rfl ?_
  obtain ⟨M112, e113, h⟩ := ob1_some h
  refine wl_callV0 d_World_liveDay_196 lc_World_growOld lv_World_168 rfl (shW0 hw) rfl rfl ⟨rfl, rfl⟩ ⟨by decide, by decide⟩ ?_
  refine s_World_growOld (d := d + 4) hw e113 ?_
  cases h
  exact wp_ret d_World_liveDay_199 rfl rfl hq
end S142
