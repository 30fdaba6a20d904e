/-! methods as functions: printed by program -/
section S1416
variable {X : mXs} {d z : Nat} {Q : Option Value → mH → Prop}
def F_Mod_sticksNow (z : Nat) (M : mM) : Option (Int32 × mM) :=
  ob1 (ra M 330 11 (nI 4)) fun v2 =>
  ob1 (ra M 313 270 (nI 3)) fun v4 =>
  ob2 (F_Mod_lawTells z (nI 0) (((nI 10) * v2) - ((nI 50) * v4)) (nI 1000) M) fun v5 M6 =>
  some (v5, M6)
theorem s_Mod_sticksNow {M : mM} {r : Int32} {M' : mM} (h : F_Mod_sticksNow z M = some (r, M')) (hq : Q (some (.int r)) (lay M')) : Sp X (d + 4) f_Mod_sticksNow [.ref 312] (lay M) Q := by
  refine Sp_of (by decide) rfl (Nat.le_of_ble_eq_true rfl) ?_
  refine wp_aload_n d_Mod_sticksNow_0 rfl rfl ?_
  refine wp_iconst d_Mod_sticksNow_1 (v := nI 0) rfl ?_
  refine wp_bipush d_Mod_sticksNow_2 (v := nI 10) rfl ?_
  refine wp_aload_n d_Mod_sticksNow_4 rfl rfl ?_
  refine wl_getR d_Mod_sticksNow_5 lf_Mod_65 sh_312 rfl ?_
  refine wp_iconst d_Mod_sticksNow_8 (v := nI 4) rfl ?_
  obtain ⟨v2, e1, h⟩ := ob1_some h
  refine wa_ald d_Mod_sticksNow_9 sh_330 e1 ?_
  refine wp_imul d_Mod_sticksNow_10 ?_
  refine wp_bipush d_Mod_sticksNow_11 (v := nI 50) rfl ?_
  refine wp_aload_n d_Mod_sticksNow_13 rfl rfl ?_
  refine wl_getR d_Mod_sticksNow_14 lf_Mod_7 sh_312 rfl ?_
  refine wp_iconst d_Mod_sticksNow_17 (v := nI 3) rfl ?_
  obtain ⟨v4, e3, h⟩ := ob1_some h
  refine wa_ald d_Mod_sticksNow_18 sh_313 e3 ?_
  refine wp_imul d_Mod_sticksNow_19 ?_
  refine wp_isub d_Mod_sticksNow_20 ?_
  refine wp_sipush d_Mod_sticksNow_21 (v := nI 1000) rfl ?_
  obtain ⟨v5, M6, e7, h⟩ := ob2_some h
  refine wl_callV3 d_Mod_sticksNow_24 lc_Mod_lawTells lv_Mod_322 rfl sh_312 rfl rfl ⟨rfl, rfl⟩ ⟨by decide, by decide⟩ ?_
  refine s_Mod_lawTells (d := d) e7 ?_
  cases h
  exact wp_iret d_Mod_sticksNow_27 rfl rfl rfl hq
def F_Mod_freesOf (z : Nat) (t_ : Int32) (M : mM) : Option (Int32 × mM) :=
  ob1 (F_Mod_asksOf z t_ M) fun M1 =>
  ob1 (ra M1 330 11 (nI 2)) fun v4 =>
  ob1 (ra M1 313 270 (nI 3)) fun v6 =>
  ob1 (ra M1 330 11 (nI 4)) fun v8 =>
  ob2 (F_Mod_lawTells z (nI 1) ((((nI 20) * v4) + ((nI 10) * v6)) - ((nI 2) * v8)) (nI 1000) M1) fun v9 M10 =>
  some (v9, M10)
theorem s_Mod_freesOf {t_ : Int32} {M : mM} {r : Int32} {M' : mM} (h : F_Mod_freesOf z t_ M = some (r, M')) (hq : Q (some (.int r)) (lay M')) : Sp X (d + 4) f_Mod_freesOf [.ref 312, .int t_] (lay M) Q := by
  refine Sp_of (by decide) rfl (Nat.le_of_ble_eq_true rfl) ?_
  refine wp_aload_n d_Mod_freesOf_0 rfl rfl ?_
  refine wp_iload_n d_Mod_freesOf_1 rfl rfl ?_
  obtain ⟨M1, e2, h⟩ := ob1_some h
  refine wl_callV1 d_Mod_freesOf_2 lc_Mod_asksOf lv_Mod_325 rfl sh_312 rfl rfl ⟨rfl, rfl⟩ ⟨by decide, by decide⟩ ?_
  refine s_Mod_asksOf (d := d) e2 ?_
  refine wp_aload_n d_Mod_freesOf_5 rfl rfl ?_
  refine wp_iconst d_Mod_freesOf_6 (v := nI 1) rfl ?_
  refine wp_bipush d_Mod_freesOf_7 (v := nI 20) rfl ?_
  refine wp_aload_n d_Mod_freesOf_9 rfl rfl ?_
  refine wl_getR d_Mod_freesOf_10 lf_Mod_65 sh_312 rfl ?_
  refine wp_iconst d_Mod_freesOf_13 (v := nI 2) rfl ?_
  obtain ⟨v4, e3, h⟩ := ob1_some h
  refine wa_ald d_Mod_freesOf_14 sh_330 e3 ?_
  refine wp_imul d_Mod_freesOf_15 ?_
  refine wp_bipush d_Mod_freesOf_16 (v := nI 10) rfl ?_
  refine wp_aload_n d_Mod_freesOf_18 rfl rfl ?_
  refine wl_getR d_Mod_freesOf_19 lf_Mod_7 sh_312 rfl ?_
  refine wp_iconst d_Mod_freesOf_22 (v := nI 3) rfl ?_
  obtain ⟨v6, e5, h⟩ := ob1_some h
  refine wa_ald d_Mod_freesOf_23 sh_313 e5 ?_
  refine wp_imul d_Mod_freesOf_24 ?_
  refine wp_iadd d_Mod_freesOf_25 ?_
  refine wp_iconst d_Mod_freesOf_26 (v := nI 2) rfl ?_
  refine wp_aload_n d_Mod_freesOf_27 rfl rfl ?_
  refine wl_getR d_Mod_freesOf_28 lf_Mod_65 sh_312 rfl ?_
  refine wp_iconst d_Mod_freesOf_31 (v := nI 4) rfl ?_
  obtain ⟨v8, e7, h⟩ := ob1_some h
  refine wa_ald d_Mod_freesOf_32 sh_330 e7 ?_
  refine wp_imul d_Mod_freesOf_33 ?_
  refine wp_isub d_Mod_freesOf_34 ?_
  refine wp_sipush d_Mod_freesOf_35 (v := nI 1000) rfl ?_
  obtain ⟨v9, M10, e11, h⟩ := ob2_some h
  refine wl_callV3 d_Mod_freesOf_38 lc_Mod_lawTells lv_Mod_322 rfl sh_312 rfl rfl ⟨rfl, rfl⟩ ⟨by decide, by decide⟩ ?_
  refine s_Mod_lawTells (d := d) e11 ?_
  cases h
  exact wp_iret d_Mod_freesOf_41 rfl rfl rfl hq
def F_Mod_slidesOf (z : Nat) (t_ : Int32) (M : mM) : Option (Int32 × mM) :=
  ob1 (F_Mod_asksOf z t_ M) fun M1 =>
  ob1 (ra M1 313 270 (nI 4)) fun v4 =>
  ob2 (F_Mod_lawTells z (nI 2) (v4 / (nI 4)) (nI 9) M1) fun v5 M6 =>
  some (v5, M6)
theorem s_Mod_slidesOf {t_ : Int32} {M : mM} {r : Int32} {M' : mM} (h : F_Mod_slidesOf z t_ M = some (r, M')) (hq : Q (some (.int r)) (lay M')) : Sp X (d + 4) f_Mod_slidesOf [.ref 312, .int t_] (lay M) Q := by
  refine Sp_of (by decide) rfl (Nat.le_of_ble_eq_true rfl) ?_
  refine wp_aload_n d_Mod_slidesOf_0 rfl rfl ?_
  refine wp_iload_n d_Mod_slidesOf_1 rfl rfl ?_
  obtain ⟨M1, e2, h⟩ := ob1_some h
  refine wl_callV1 d_Mod_slidesOf_2 lc_Mod_asksOf lv_Mod_325 rfl sh_312 rfl rfl ⟨rfl, rfl⟩ ⟨by decide, by decide⟩ ?_
  refine s_Mod_asksOf (d := d) e2 ?_
  refine wp_aload_n d_Mod_slidesOf_5 rfl rfl ?_
  refine wp_iconst d_Mod_slidesOf_6 (v := nI 2) rfl ?_
  refine wp_aload_n d_Mod_slidesOf_7 rfl rfl ?_
  refine wl_getR d_Mod_slidesOf_8 lf_Mod_7 sh_312 rfl ?_
  refine wp_iconst d_Mod_slidesOf_11 (v := nI 4) rfl ?_
  obtain ⟨v4, e3, h⟩ := ob1_some h
  refine wa_ald d_Mod_slidesOf_12 sh_313 e3 ?_
  refine wp_iconst d_Mod_slidesOf_13 (v := nI 4) rfl ?_
  refine wp_idiv d_Mod_slidesOf_14 (by decide) ?_
  refine wp_bipush d_Mod_slidesOf_15 (v := nI 9) rfl ?_
  obtain ⟨v5, M6, e7, h⟩ := ob2_some h
  refine wl_callV3 d_Mod_slidesOf_17 lc_Mod_lawTells lv_Mod_322 rfl sh_312 rfl rfl ⟨rfl, rfl⟩ ⟨by decide, by decide⟩ ?_
  refine s_Mod_lawTells (d := d) e7 ?_
  cases h
  exact wp_iret d_Mod_slidesOf_20 rfl rfl rfl hq
def F_Mod_notes (what_ : Int32) (which_ : Int32) (much_ : Int32) (M : mM) : Option mM :=
  ob1 (if ¬ ((M 312 5) = nI 0) then some (true)
  else ob1 (ra M 313 270 (nI 2)) fun v26 =>
  some (decide (v26 = (nI 150)))) fun x1 =>
  if x1 = true then
  some M
  else
  ob1 (ra M 313 270 (nI 2)) fun v10 =>
  ob1 (ra M 313 270 (nI 0)) fun v12 =>
  ob1 (wa M 316 600 ((nI 4) * v10) v12) fun M14 =>
  ob1 (wa M14 316 600 (((nI 4) * v10) + (nI 1)) what_) fun M16 =>
  ob1 (wa M16 316 600 (((nI 4) * v10) + (nI 2)) which_) fun M18 =>
  ob1 (wa M18 316 600 (((nI 4) * v10) + (nI 3)) much_) fun M20 =>
  ob1 (ra M20 313 270 (nI 2)) fun v22 =>
  ob1 (wa M20 313 270 (nI 2) (v22 + (nI 1))) fun M24 =>
  some M24
theorem s_Mod_notes {what_ : Int32} {which_ : Int32} {much_ : Int32} {M : mM} {M' : mM} (h : F_Mod_notes what_ which_ much_ M = some M') (hq : Q none (lay M')) : Sp X d f_Mod_notes [.ref 312, .int what_, .int which_, .int much_] (lay M) Q := by
  refine Sp_of (by decide) rfl (Nat.le_of_ble_eq_true rfl) ?_
  obtain ⟨x1, e2, h⟩ := ob1_some h
  have k5 : ∀ u4 : Value, x1 = true → wp X d f_Mod_notes (0, 0) 19 [.ref 312, .int what_, .int which_, .int much_, u4] [] (lay M) Q := by
    intro u4 x6
    replace h := ip h x6
    cases h
    exact wp_ret d_Mod_notes_19 rfl rfl hq
  have k7 : ∀ u4 : Value, ¬ x1 = true → wp X d f_Mod_notes (0, 0) 20 [.ref 312, .int what_, .int which_, .int much_, u4] [] (lay M) Q := by
    intro u4 x8
    replace h := inn h x8
    refine wp_iconst d_Mod_notes_20 (v := nI 4) rfl ?_
    refine wp_aload_n d_Mod_notes_21 rfl rfl ?_
    refine wl_getR d_Mod_notes_22 lf_Mod_7 sh_312 rfl ?_
    refine wp_iconst d_Mod_notes_25 (v := nI 2) rfl ?_
    obtain ⟨v10, e9, h⟩ := ob1_some h
    refine wa_ald d_Mod_notes_26 sh_313 e9 ?_
    refine wp_imul d_Mod_notes_27 ?_
    refine wp_istore d_Mod_notes_28 (by decide) ?_
    refine wp_aload_n d_Mod_notes_30 rfl rfl ?_
    refine wl_getR d_Mod_notes_31 lf_Mod_19 sh_312 rfl ?_
    refine wp_iload d_Mod_notes_34 rfl ?_
    refine wp_aload_n d_Mod_notes_36 rfl rfl ?_
    refine wl_getR d_Mod_notes_37 lf_Mod_7 sh_312 rfl ?_
    refine wp_iconst d_Mod_notes_40 (v := nI 0) rfl ?_
    obtain ⟨v12, e11, h⟩ := ob1_some h
    refine wa_ald d_Mod_notes_41 sh_313 e11 ?_
    obtain ⟨M14, e13, h⟩ := ob1_some h
    refine wa_ast d_Mod_notes_42 sh_316 e13 ?_
    refine wp_aload_n d_Mod_notes_43 rfl rfl ?_
    refine wl_getR d_Mod_notes_44 lf_Mod_19 sh_312 rfl ?_
    refine wp_iload d_Mod_notes_47 rfl ?_
    refine wp_iconst d_Mod_notes_49 (v := nI 1) rfl ?_
    refine wp_iadd d_Mod_notes_50 ?_
    refine wp_iload_n d_Mod_notes_51 rfl rfl ?_
    obtain ⟨M16, e15, h⟩ := ob1_some h
    refine wa_ast d_Mod_notes_52 sh_316 e15 ?_
    refine wp_aload_n d_Mod_notes_53 rfl rfl ?_
    refine wl_getR d_Mod_notes_54 lf_Mod_19 sh_312 rfl ?_
    refine wp_iload d_Mod_notes_57 rfl ?_
    refine wp_iconst d_Mod_notes_59 (v := nI 2) rfl ?_
    refine wp_iadd d_Mod_notes_60 ?_
    refine wp_iload_n d_Mod_notes_61 rfl rfl ?_
    obtain ⟨M18, e17, h⟩ := ob1_some h
    refine wa_ast d_Mod_notes_62 sh_316 e17 ?_
    refine wp_aload_n d_Mod_notes_63 rfl rfl ?_
    refine wl_getR d_Mod_notes_64 lf_Mod_19 sh_312 rfl ?_
    refine wp_iload d_Mod_notes_67 rfl ?_
    refine wp_iconst d_Mod_notes_69 (v := nI 3) rfl ?_
    refine wp_iadd d_Mod_notes_70 ?_
    refine wp_iload_n d_Mod_notes_71 rfl rfl ?_
    obtain ⟨M20, e19, h⟩ := ob1_some h
    refine wa_ast d_Mod_notes_72 sh_316 e19 ?_
    refine wp_aload_n d_Mod_notes_73 rfl rfl ?_
    refine wl_getR d_Mod_notes_74 lf_Mod_7 sh_312 rfl ?_
    refine wp_iconst d_Mod_notes_77 (v := nI 2) rfl ?_
    refine wp_aload_n d_Mod_notes_78 rfl rfl ?_
    refine wl_getR d_Mod_notes_79 lf_Mod_7 sh_312 rfl ?_
    refine wp_iconst d_Mod_notes_82 (v := nI 2) rfl ?_
    obtain ⟨v22, e21, h⟩ := ob1_some h
    refine wa_ald d_Mod_notes_83 sh_313 e21 ?_
    refine wp_iconst d_Mod_notes_84 (v := nI 1) rfl ?_
    refine wp_iadd d_Mod_notes_85 ?_
    obtain ⟨M24, e23, h⟩ := ob1_some h
    refine wa_ast d_Mod_notes_86 sh_313 e23 ?_
    cases h
    exact wp_ret d_Mod_notes_87 rfl rfl hq
  refine wp_aload_n d_Mod_notes_0 rfl rfl ?_
  refine wl_getI d_Mod_notes_1 lf_Mod_114 sh_312 rfl rfl ?_
  refine wz_ne 19 d_Mod_notes_4 rfl (fun h4 => ?_) (fun h4 => ?_)
  · replace e2 := ip e2 h4
    cases e2
    exact k5 _ rfl
  · replace e2 := inn e2 (fun z => z h4)
    refine wp_aload_n d_Mod_notes_7 rfl rfl ?_
    refine wl_getR d_Mod_notes_8 lf_Mod_7 sh_312 rfl ?_
    refine wp_iconst d_Mod_notes_11 (v := nI 2) rfl ?_
    obtain ⟨v26, e25, e2⟩ := ob1_some e2
    refine wa_ald d_Mod_notes_12 sh_313 e25 ?_
    refine wp_sipush d_Mod_notes_13 (v := nI 150) rfl ?_
    refine wq_icmp_ne 20 d_Mod_notes_16 rfl (fun h16 => ?_) (fun h16 => ?_)
    · cases e2
      exact k7 _ (fun z => h16 (of_decide_eq_true z))
    · cases e2
      exact k5 _ (decide_eq_true h16)
def F_Mod_isStuck (kind_ : Int32) (size_ : Int32) (life_ : Int32) (i_ : Int32) (M : mM) : Option (Int32 × mM) :=
  ob1 (ra M 313 270 (nI 8)) fun v2 =>
  ob1 (ra M 313 270 (nI 5)) fun v4 =>
  ob1 (wa M 313 270 ((F_Mod_thingAt v2) + (nI 0)) v4) fun M6 =>
  ob1 (wa M6 313 270 ((F_Mod_thingAt v2) + (nI 1)) kind_) fun M8 =>
  ob1 (wa M8 313 270 ((F_Mod_thingAt v2) + (nI 2)) size_) fun M10 =>
  ob1 (wa M10 313 270 ((F_Mod_thingAt v2) + (nI 3)) life_) fun M12 =>
  ob1 (wa M12 313 270 ((F_Mod_thingAt v2) + (nI 4)) i_) fun M14 =>
  ob1 (wa M14 313 270 ((F_Mod_thingAt v2) + (nI 5)) (nI 0)) fun M16 =>
  ob1 (wa M16 313 270 ((F_Mod_thingAt v2) + (nI 6)) (nI 6)) fun M18 =>
  ob1 (ra M18 313 270 (nI 8)) fun v20 =>
  ob1 (wa M18 313 270 (nI 8) (v20 + (nI 1))) fun M22 =>
  ob1 (ra M22 313 270 (nI 5)) fun v24 =>
  ob1 (wa M22 313 270 (nI 5) (v24 + (nI 1))) fun M26 =>
  ob1 (ra M26 313 270 (F_Mod_thingAt v2)) fun v28 =>
  ob1 (F_Mod_notes (nI 0) v28 i_ M26) fun M29 =>
  ob1 (ra M29 313 270 (F_Mod_thingAt v2)) fun v32 =>
  some (v32, M29)
theorem s_Mod_isStuck {kind_ : Int32} {size_ : Int32} {life_ : Int32} {i_ : Int32} {M : mM} {r : Int32} {M' : mM} (h : F_Mod_isStuck kind_ size_ life_ i_ M = some (r, M')) (hq : Q (some (.int r)) (lay M')) : Sp X (d + 1) f_Mod_isStuck [.ref 312, .int kind_, .int size_, .int life_, .int i_] (lay M) Q := by
  refine Sp_of (by decide) rfl (Nat.le_of_ble_eq_true rfl) ?_
  refine wp_aload_n d_Mod_isStuck_0 rfl rfl ?_
  refine wp_aload_n d_Mod_isStuck_1 rfl rfl ?_
  refine wl_getR d_Mod_isStuck_2 lf_Mod_7 sh_312 rfl ?_
  refine wp_bipush d_Mod_isStuck_5 (v := nI 8) rfl ?_
  obtain ⟨v2, e1, h⟩ := ob1_some h
  refine wa_ald d_Mod_isStuck_7 sh_313 e1 ?_
  refine wl_callV1 d_Mod_isStuck_8 lc_Mod_thingAt lv_Mod_124 rfl sh_312 rfl rfl ⟨rfl, rfl⟩ ⟨by decide, by decide⟩ ?_
  refine s_Mod_thingAt (d := d) rfl ?_
  refine wp_istore d_Mod_isStuck_11 (by decide) ?_
  refine wp_aload_n d_Mod_isStuck_13 rfl rfl ?_
  refine wl_getR d_Mod_isStuck_14 lf_Mod_7 sh_312 rfl ?_
  refine wp_iload d_Mod_isStuck_17 rfl ?_
  refine wp_iconst d_Mod_isStuck_19 (v := nI 0) rfl ?_
  refine wp_iadd d_Mod_isStuck_20 ?_
  refine wp_aload_n d_Mod_isStuck_21 rfl rfl ?_
  refine wl_getR d_Mod_isStuck_22 lf_Mod_7 sh_312 rfl ?_
  refine wp_iconst d_Mod_isStuck_25 (v := nI 5) rfl ?_
  obtain ⟨v4, e3, h⟩ := ob1_some h
  refine wa_ald d_Mod_isStuck_26 sh_313 e3 ?_
  obtain ⟨M6, e5, h⟩ := ob1_some h
  refine wa_ast d_Mod_isStuck_27 sh_313 e5 ?_
  refine wp_aload_n d_Mod_isStuck_28 rfl rfl ?_
  refine wl_getR d_Mod_isStuck_29 lf_Mod_7 sh_312 rfl ?_
  refine wp_iload d_Mod_isStuck_32 rfl ?_
  refine wp_iconst d_Mod_isStuck_34 (v := nI 1) rfl ?_
  refine wp_iadd d_Mod_isStuck_35 ?_
  refine wp_iload_n d_Mod_isStuck_36 rfl rfl ?_
  obtain ⟨M8, e7, h⟩ := ob1_some h
  refine wa_ast d_Mod_isStuck_37 sh_313 e7 ?_
  refine wp_aload_n d_Mod_isStuck_38 rfl rfl ?_
  refine wl_getR d_Mod_isStuck_39 lf_Mod_7 sh_312 rfl ?_
  refine wp_iload d_Mod_isStuck_42 rfl ?_
  refine wp_iconst d_Mod_isStuck_44 (v := nI 2) rfl ?_
  refine wp_iadd d_Mod_isStuck_45 ?_
  refine wp_iload_n d_Mod_isStuck_46 rfl rfl ?_
  obtain ⟨M10, e9, h⟩ := ob1_some h
  refine wa_ast d_Mod_isStuck_47 sh_313 e9 ?_
  refine wp_aload_n d_Mod_isStuck_48 rfl rfl ?_
  refine wl_getR d_Mod_isStuck_49 lf_Mod_7 sh_312 rfl ?_
  refine wp_iload d_Mod_isStuck_52 rfl ?_
  refine wp_iconst d_Mod_isStuck_54 (v := nI 3) rfl ?_
  refine wp_iadd d_Mod_isStuck_55 ?_
  refine wp_iload_n d_Mod_isStuck_56 rfl rfl ?_
  obtain ⟨M12, e11, h⟩ := ob1_some h
  refine wa_ast d_Mod_isStuck_57 sh_313 e11 ?_
  refine wp_aload_n d_Mod_isStuck_58 rfl rfl ?_
  refine wl_getR d_Mod_isStuck_59 lf_Mod_7 sh_312 rfl ?_
  refine wp_iload d_Mod_isStuck_62 rfl ?_
  refine wp_iconst d_Mod_isStuck_64 (v := nI 4) rfl ?_
  refine wp_iadd d_Mod_isStuck_65 ?_
  refine wp_iload d_Mod_isStuck_66 rfl ?_
  obtain ⟨M14, e13, h⟩ := ob1_some h
  refine wa_ast d_Mod_isStuck_68 sh_313 e13 ?_
  refine wp_aload_n d_Mod_isStuck_69 rfl rfl ?_
  refine wl_getR d_Mod_isStuck_70 lf_Mod_7 sh_312 rfl ?_
  refine wp_iload d_Mod_isStuck_73 rfl ?_
  refine wp_iconst d_Mod_isStuck_75 (v := nI 5) rfl ?_
  refine wp_iadd d_Mod_isStuck_76 ?_
  refine wp_iconst d_Mod_isStuck_77 (v := nI 0) rfl ?_
  obtain ⟨M16, e15, h⟩ := ob1_some h
  refine wa_ast d_Mod_isStuck_78 sh_313 e15 ?_
  refine wp_aload_n d_Mod_isStuck_79 rfl rfl ?_
  refine wl_getR d_Mod_isStuck_80 lf_Mod_7 sh_312 rfl ?_
  refine wp_iload d_Mod_isStuck_83 rfl ?_
  refine wp_bipush d_Mod_isStuck_85 (v := nI 6) rfl ?_
  refine wp_iadd d_Mod_isStuck_87 ?_
  refine wp_bipush d_Mod_isStuck_88 (v := nI 6) rfl ?_
  obtain ⟨M18, e17, h⟩ := ob1_some h
  refine wa_ast d_Mod_isStuck_90 sh_313 e17 ?_
  refine wp_aload_n d_Mod_isStuck_91 rfl rfl ?_
  refine wl_getR d_Mod_isStuck_92 lf_Mod_7 sh_312 rfl ?_
  refine wp_bipush d_Mod_isStuck_95 (v := nI 8) rfl ?_
  refine wp_aload_n d_Mod_isStuck_97 rfl rfl ?_
  refine wl_getR d_Mod_isStuck_98 lf_Mod_7 sh_312 rfl ?_
  refine wp_bipush d_Mod_isStuck_101 (v := nI 8) rfl ?_
  obtain ⟨v20, e19, h⟩ := ob1_some h
  refine wa_ald d_Mod_isStuck_103 sh_313 e19 ?_
  refine wp_iconst d_Mod_isStuck_104 (v := nI 1) rfl ?_
  refine wp_iadd d_Mod_isStuck_105 ?_
  obtain ⟨M22, e21, h⟩ := ob1_some h
  refine wa_ast d_Mod_isStuck_106 sh_313 e21 ?_
  refine wp_aload_n d_Mod_isStuck_107 rfl rfl ?_
  refine wl_getR d_Mod_isStuck_108 lf_Mod_7 sh_312 rfl ?_
  refine wp_iconst d_Mod_isStuck_111 (v := nI 5) rfl ?_
  refine wp_aload_n d_Mod_isStuck_112 rfl rfl ?_
  refine wl_getR d_Mod_isStuck_113 lf_Mod_7 sh_312 rfl ?_
  refine wp_iconst d_Mod_isStuck_116 (v := nI 5) rfl ?_
  obtain ⟨v24, e23, h⟩ := ob1_some h
  refine wa_ald d_Mod_isStuck_117 sh_313 e23 ?_
  refine wp_iconst d_Mod_isStuck_118 (v := nI 1) rfl ?_
  refine wp_iadd d_Mod_isStuck_119 ?_
  obtain ⟨M26, e25, h⟩ := ob1_some h
  refine wa_ast d_Mod_isStuck_120 sh_313 e25 ?_
  refine wp_aload_n d_Mod_isStuck_121 rfl rfl ?_
  refine wp_iconst d_Mod_isStuck_122 (v := nI 0) rfl ?_
  refine wp_aload_n d_Mod_isStuck_123 rfl rfl ?_
  refine wl_getR d_Mod_isStuck_124 lf_Mod_7 sh_312 rfl ?_
  refine wp_iload d_Mod_isStuck_127 rfl ?_
  obtain ⟨v28, e27, h⟩ := ob1_some h
  refine wa_ald d_Mod_isStuck_129 sh_313 e27 ?_
  refine wp_iload d_Mod_isStuck_130 rfl ?_
  obtain ⟨M29, e30, h⟩ := ob1_some h
  refine wl_callV3 d_Mod_isStuck_132 lc_Mod_notes lv_Mod_328 rfl sh_312 rfl rfl ⟨rfl, rfl⟩ ⟨by decide, by decide⟩ ?_
  refine s_Mod_notes (d := d) e30 ?_
  refine wp_aload_n d_Mod_isStuck_135 rfl rfl ?_
  refine wl_getR d_Mod_isStuck_136 lf_Mod_7 sh_312 rfl ?_
  refine wp_iload d_Mod_isStuck_139 rfl ?_
  obtain ⟨v32, e31, h⟩ := ob1_some h
  refine wa_ald d_Mod_isStuck_141 sh_313 e31 ?_
  cases h
  exact wp_iret d_Mod_isStuck_142 rfl rfl rfl hq
def L_Mod_isGone_1 (z : Nat) : Nat → Int32 → mM → Option (mM)
  | 0, _, _ => none
  | n + 1, k_, M =>
    ob1 (ob1 (ra M 313 270 (nI 8)) fun v20 =>
    some (decide (k_ < (F_Mod_thingAt v20)))) fun x7 =>
    if x7 = true then
    ob1 (ra M 313 270 (k_ + (nI 7))) fun v14 =>
    ob1 (wa M 313 270 k_ v14) fun M16 =>
    L_Mod_isGone_1 z n (k_ + nI 1) M16
    else
    some (M)
def F_Mod_isGone (z : Nat) (t_ : Int32) (M : mM) : Option mM :=
  ob1 (ra M 313 270 (nI 8)) fun v2 =>
  ob1 (wa M 313 270 (nI 8) (v2 - (nI 1))) fun M4 =>
  ob1 (L_Mod_isGone_1 z z (F_Mod_thingAt t_) M4) fun M21 =>
  some M21
theorem l_Mod_isGone_1  {q1 : Value} {N' : mM} (K : ∀ u2 : Value, wp X (d + 1) f_Mod_isGone (0, 0) 58 [.ref 312, q1, u2] [] (lay N') Q) : ∀ (n : Nat) (k_ : Int32) (M : mM), L_Mod_isGone_1 z n k_ M = some (N') → wp X (d + 1) f_Mod_isGone (0, 0) 22 [.ref 312, q1, .int k_] [] (lay M) Q := by
  intro n
  induction n with
  | zero => intro k_ M h; exact nn h
  | succ n ih =>
    intro k_ M h
    obtain ⟨x7, e8, h⟩ := ob1_some h
    have k11 : x7 = true → wp X (d + 1) f_Mod_isGone (0, 0) 37 [.ref 312, q1, .int k_] [] (lay M) Q := by
      intro x12
      replace h := ip h x12
      refine wp_aload_n d_Mod_isGone_37 rfl rfl ?_
      refine wl_getR d_Mod_isGone_38 lf_Mod_7 sh_312 rfl ?_
      refine wp_iload_n d_Mod_isGone_41 rfl rfl ?_
      refine wp_aload_n d_Mod_isGone_42 rfl rfl ?_
      refine wl_getR d_Mod_isGone_43 lf_Mod_7 sh_312 rfl ?_
      refine wp_iload_n d_Mod_isGone_46 rfl rfl ?_
      refine wp_bipush d_Mod_isGone_47 (v := nI 7) rfl ?_
      refine wp_iadd d_Mod_isGone_49 ?_
      obtain ⟨v14, e13, h⟩ := ob1_some h
      refine wa_ald d_Mod_isGone_50 sh_313 e13 ?_
      obtain ⟨M16, e15, h⟩ := ob1_some h
      refine wa_ast d_Mod_isGone_51 sh_313 e15 ?_
      refine wp_iinc d_Mod_isGone_52 (v := k_ + nI 1) rfl rfl ?_
      refine wp_goto 22 d_Mod_isGone_55 rfl ?_
      exact ih _ _ h
    have k17 : ¬ x7 = true → wp X (d + 1) f_Mod_isGone (0, 0) 58 [.ref 312, q1, .int k_] [] (lay M) Q := by
      intro x18
      replace h := inn h x18
      cases h
      exact K _
    refine wp_iload_n d_Mod_isGone_22 rfl rfl ?_
    refine wp_aload_n d_Mod_isGone_23 rfl rfl ?_
    refine wp_aload_n d_Mod_isGone_24 rfl rfl ?_
    refine wl_getR d_Mod_isGone_25 lf_Mod_7 sh_312 rfl ?_
    refine wp_bipush d_Mod_isGone_28 (v := nI 8) rfl ?_
    obtain ⟨v20, e19, e8⟩ := ob1_some e8
    refine wa_ald d_Mod_isGone_30 sh_313 e19 ?_
    refine wl_callV1 d_Mod_isGone_31 lc_Mod_thingAt lv_Mod_124 rfl sh_312 rfl rfl ⟨rfl, rfl⟩ ⟨by decide, by decide⟩ ?_
    refine s_Mod_thingAt (d := d) rfl ?_
    refine wq_icmp_ge 58 d_Mod_isGone_34 rfl (fun h34 => ?_) (fun h34 => ?_)
    · cases e8
      exact k17 (fun z => h34 (of_decide_eq_true z))
    · cases e8
      exact k11 (decide_eq_true h34)
theorem s_Mod_isGone {t_ : Int32} {M : mM} {M' : mM} (h : F_Mod_isGone z t_ M = some M') (hq : Q none (lay M')) : Sp X (d + 1) f_Mod_isGone [.ref 312, .int t_] (lay M) Q := by
  refine Sp_of (by decide) rfl (Nat.le_of_ble_eq_true rfl) ?_
  refine wp_aload_n d_Mod_isGone_0 rfl rfl ?_
  refine wl_getR d_Mod_isGone_1 lf_Mod_7 sh_312 rfl ?_
  refine wp_bipush d_Mod_isGone_4 (v := nI 8) rfl ?_
  refine wp_aload_n d_Mod_isGone_6 rfl rfl ?_
  refine wl_getR d_Mod_isGone_7 lf_Mod_7 sh_312 rfl ?_
  refine wp_bipush d_Mod_isGone_10 (v := nI 8) rfl ?_
  obtain ⟨v2, e1, h⟩ := ob1_some h
  refine wa_ald d_Mod_isGone_12 sh_313 e1 ?_
  refine wp_iconst d_Mod_isGone_13 (v := nI 1) rfl ?_
  refine wp_isub d_Mod_isGone_14 ?_
  obtain ⟨M4, e3, h⟩ := ob1_some h
  refine wa_ast d_Mod_isGone_15 sh_313 e3 ?_
  refine wp_aload_n d_Mod_isGone_16 rfl rfl ?_
  refine wp_iload_n d_Mod_isGone_17 rfl rfl ?_
  refine wl_callV1 d_Mod_isGone_18 lc_Mod_thingAt lv_Mod_124 rfl sh_312 rfl rfl ⟨rfl, rfl⟩ ⟨by decide, by decide⟩ ?_
  refine s_Mod_thingAt (d := d) rfl ?_
  refine wp_istore_n d_Mod_isGone_21 rfl (by decide) ?_
  obtain ⟨M21, e22, h⟩ := ob1_some h
  refine l_Mod_isGone_1 ?_ _ _ _ e22
  intro u2
  cases h
  exact wp_ret d_Mod_isGone_58 rfl rfl hq
def F_Mod_comesUp (z : Nat) (kind_ : Int32) (size_ : Int32) (life_ : Int32) (i_ : Int32) (M : mM) : Option mM :=
  ob1 (ob1 (ob1 (F_Mod_isTaken z i_ M) fun v56 =>
  some (v56)) fun x46 =>
  if x46 = true then some (true)
  else ob1 (ra M 313 270 (nI 8)) fun v55 =>
  some (decide (v55 = (nI 20)))) fun x1 =>
  if x1 = true then
  some M
  else
  ob1 (F_Mod_asks z kind_ size_ life_ i_ (nI 0) (nI 6) M) fun M19 =>
  ob2 (F_Mod_sticksNow z M19) fun v21 M22 =>
  ob2 (if ¬ ((M22 312 5) = nI 0) then some (decide (((nI 2) * v21) < (nI 1000)), M22)
  else ob2 (F_Mod_draw (nI 1000) M22) fun v43 M44 =>
  some (decide (¬ (v43 < v21)), M44)) fun x24 M26 =>
  if x24 = true then
  ob1 (F_Mod_notes (nI 1) (-1) i_ M26) fun M32 =>
  some M32
  else
  ob2 (F_Mod_isStuck kind_ size_ life_ i_ M26) fun v36 M37 =>
  ob1 (F_Mod_glue i_ M37) fun v39 =>
  ob1 (F_Mod_hasGlue i_ (v39 - size_) M37) fun M41 =>
  some M41
theorem s_Mod_comesUp {kind_ : Int32} {size_ : Int32} {life_ : Int32} {i_ : Int32} {M : mM} {M' : mM} (h : F_Mod_comesUp z kind_ size_ life_ i_ M = some M') (hq : Q none (lay M')) : Sp X (d + 5) f_Mod_comesUp [.ref 312, .int kind_, .int size_, .int life_, .int i_] (lay M) Q := by
  refine Sp_of (by decide) rfl (Nat.le_of_ble_eq_true rfl) ?_
  obtain ⟨x1, e2, h⟩ := ob1_some h
  have k15 : ∀ u5 : Value, x1 = true → wp X (d + 5) f_Mod_comesUp (0, 0) 21 [.ref 312, .int kind_, .int size_, .int life_, .int i_, u5] [] (lay M) Q := by
    intro u5 x16
    replace h := ip h x16
    cases h
    exact wp_ret d_Mod_comesUp_21 rfl rfl hq
  have k17 : ∀ u5 : Value, ¬ x1 = true → wp X (d + 5) f_Mod_comesUp (0, 0) 22 [.ref 312, .int kind_, .int size_, .int life_, .int i_, u5] [] (lay M) Q := by
    intro u5 x18
    replace h := inn h x18
    refine wp_aload_n d_Mod_comesUp_22 rfl rfl ?_
    refine wp_iload_n d_Mod_comesUp_23 rfl rfl ?_
    refine wp_iload_n d_Mod_comesUp_24 rfl rfl ?_
    refine wp_iload_n d_Mod_comesUp_25 rfl rfl ?_
    refine wp_iload d_Mod_comesUp_26 rfl ?_
    refine wp_iconst d_Mod_comesUp_28 (v := nI 0) rfl ?_
    refine wp_bipush d_Mod_comesUp_29 (v := nI 6) rfl ?_
    obtain ⟨M19, e20, h⟩ := ob1_some h
    refine wl_callV6 d_Mod_comesUp_31 lc_Mod_asks lv_Mod_315 rfl sh_312 rfl rfl ⟨rfl, rfl⟩ ⟨by decide, by decide⟩ ?_
    refine s_Mod_asks (d := d + 2) e20 ?_
    refine wp_aload_n d_Mod_comesUp_34 rfl rfl ?_
    obtain ⟨v21, M22, e23, h⟩ := ob2_some h
    refine wl_callV0 d_Mod_comesUp_35 lc_Mod_sticksNow lv_Mod_335 rfl sh_312 rfl rfl ⟨rfl, rfl⟩ ⟨by decide, by decide⟩ ?_
    refine s_Mod_sticksNow (d := d) e23 ?_
    refine wp_istore d_Mod_comesUp_38 (by decide) ?_
    obtain ⟨x24, M26, e25, h⟩ := ob2_some h
    have k30 : x24 = true → wp X (d + 5) f_Mod_comesUp (0, 0) 72 [.ref 312, .int kind_, .int size_, .int life_, .int i_, .int v21] [] (lay M26) Q := by
      intro x31
      replace h := ip h x31
      refine wp_aload_n d_Mod_comesUp_72 rfl rfl ?_
      refine wp_iconst d_Mod_comesUp_73 (v := nI 1) rfl ?_
      refine wp_iconst d_Mod_comesUp_74 (v := (-1)) rfl ?_
      refine wp_iload d_Mod_comesUp_75 rfl ?_
      obtain ⟨M32, e33, h⟩ := ob1_some h
      refine wl_callV3 d_Mod_comesUp_77 lc_Mod_notes lv_Mod_328 rfl sh_312 rfl rfl ⟨rfl, rfl⟩ ⟨by decide, by decide⟩ ?_
      refine s_Mod_notes (d := d + 4) e33 ?_
      cases h
      exact wp_ret d_Mod_comesUp_80 rfl rfl hq
    have k34 : ¬ x24 = true → wp X (d + 5) f_Mod_comesUp (0, 0) 81 [.ref 312, .int kind_, .int size_, .int life_, .int i_, .int v21] [] (lay M26) Q := by
      intro x35
      replace h := inn h x35
      refine wp_aload_n d_Mod_comesUp_81 rfl rfl ?_
      refine wp_iload_n d_Mod_comesUp_82 rfl rfl ?_
      refine wp_iload_n d_Mod_comesUp_83 rfl rfl ?_
      refine wp_iload_n d_Mod_comesUp_84 rfl rfl ?_
      refine wp_iload d_Mod_comesUp_85 rfl ?_
      obtain ⟨v36, M37, e38, h⟩ := ob2_some h
      refine wl_callV4 d_Mod_comesUp_87 lc_Mod_isStuck lv_Mod_341 rfl sh_312 rfl rfl ⟨rfl, rfl⟩ ⟨by decide, by decide⟩ ?_
      refine s_Mod_isStuck (d := d + 3) e38 ?_
      refine wp_pop d_Mod_comesUp_90 rfl ?_
      refine wp_aload_n d_Mod_comesUp_91 rfl rfl ?_
      refine wp_iload d_Mod_comesUp_92 rfl ?_
      refine wp_aload_n d_Mod_comesUp_94 rfl rfl ?_
      refine wp_iload d_Mod_comesUp_95 rfl ?_
      obtain ⟨v39, e40, h⟩ := ob1_some h
      refine wl_callV1 d_Mod_comesUp_97 lc_Mod_glue lv_Mod_309 rfl sh_312 rfl rfl ⟨rfl, rfl⟩ ⟨by decide, by decide⟩ ?_
      refine s_Mod_glue (d := d + 4) e40 ?_
      refine wp_iload_n d_Mod_comesUp_100 rfl rfl ?_
      refine wp_isub d_Mod_comesUp_101 ?_
      obtain ⟨M41, e42, h⟩ := ob1_some h
      refine wl_callV2 d_Mod_comesUp_102 lc_Mod_hasGlue lv_Mod_145 rfl sh_312 rfl rfl ⟨rfl, rfl⟩ ⟨by decide, by decide⟩ ?_
      refine s_Mod_hasGlue (d := d + 3) e42 ?_
      cases h
      exact wp_ret d_Mod_comesUp_105 rfl rfl hq
    refine wp_aload_n d_Mod_comesUp_40 rfl rfl ?_
    refine wl_getI d_Mod_comesUp_41 lf_Mod_114 sh_312 rfl rfl ?_
    refine wz_eq 60 d_Mod_comesUp_44 rfl (fun h44 => ?_) (fun h44 => ?_)
    · replace e25 := inn e25 (fun z => z h44)
      refine wp_aload_n d_Mod_comesUp_60 rfl rfl ?_
      refine wp_sipush d_Mod_comesUp_61 (v := nI 1000) rfl ?_
      obtain ⟨v43, M44, e45, e25⟩ := ob2_some e25
      refine wl_callV1 d_Mod_comesUp_64 lc_Mod_draw lv_Mod_338 rfl sh_312 rfl rfl ⟨rfl, rfl⟩ ⟨by decide, by decide⟩ ?_
      refine s_Mod_draw (d := d + 4) e45 ?_
      refine wp_iload d_Mod_comesUp_67 rfl ?_
      refine wq_icmp_lt 81 d_Mod_comesUp_69 rfl (fun h69 => ?_) (fun h69 => ?_)
      · cases e25
        exact k34 (fun z => (fun z => z h69) (of_decide_eq_true z))
      · cases e25
        exact k30 (decide_eq_true h69)
    · replace e25 := ip e25 h44
      refine wp_iconst d_Mod_comesUp_47 (v := nI 2) rfl ?_
      refine wp_iload d_Mod_comesUp_48 rfl ?_
      refine wp_imul d_Mod_comesUp_50 ?_
      refine wp_sipush d_Mod_comesUp_51 (v := nI 1000) rfl ?_
      refine wq_icmp_ge 81 d_Mod_comesUp_54 rfl (fun h54 => ?_) (fun h54 => ?_)
      · cases e25
        exact k34 (fun z => h54 (of_decide_eq_true z))
      · cases e25
        refine wp_goto 72 d_Mod_comesUp_57 rfl ?_
        exact k30 (decide_eq_true h54)
  obtain ⟨x46, e47, e2⟩ := ob1_some e2
  have k50 : ∀ u5 : Value, x46 = true → wp X (d + 5) f_Mod_comesUp (0, 0) 21 [.ref 312, .int kind_, .int size_, .int life_, .int i_, u5] [] (lay M) Q := by
    intro u5 x51
    replace e2 := ip e2 x51
    cases e2
    exact k15 _ rfl
  have k52 : ∀ u5 : Value, ¬ x46 = true → wp X (d + 5) f_Mod_comesUp (0, 0) 9 [.ref 312, .int kind_, .int size_, .int life_, .int i_, u5] [] (lay M) Q := by
    intro u5 x53
    replace e2 := inn e2 x53
    refine wp_aload_n d_Mod_comesUp_9 rfl rfl ?_
    refine wl_getR d_Mod_comesUp_10 lf_Mod_7 sh_312 rfl ?_
    refine wp_bipush d_Mod_comesUp_13 (v := nI 8) rfl ?_
    obtain ⟨v55, e54, e2⟩ := ob1_some e2
    refine wa_ald d_Mod_comesUp_15 sh_313 e54 ?_
    refine wp_bipush d_Mod_comesUp_16 (v := nI 20) rfl ?_
    refine wq_icmp_ne 22 d_Mod_comesUp_18 rfl (fun h18 => ?_) (fun h18 => ?_)
    · cases e2
      exact k17 _ (fun z => h18 (of_decide_eq_true z))
    · cases e2
      exact k15 _ (decide_eq_true h18)
  refine wp_aload_n d_Mod_comesUp_0 rfl rfl ?_
  refine wp_iload d_Mod_comesUp_1 rfl ?_
  obtain ⟨v56, e57, e47⟩ := ob1_some e47
  refine wl_callV1 d_Mod_comesUp_3 lc_Mod_isTaken lv_Mod_332 rfl sh_312 rfl rfl ⟨rfl, rfl⟩ ⟨by decide, by decide⟩ ?_
  refine s_Mod_isTaken (d := d + 2) e57 ?_
  refine wc_ne 21 d_Mod_comesUp_6 rfl (fun h6 => ?_) (fun h6 => ?_)
  · cases e47
    exact k50 _ h6
  · cases e47
    exact k52 _ h6
def F_Mod_put (z : Nat) (kind_ : Int32) (size_ : Int32) (life_ : Int32) (inch_ : Int32) (M : mM) : Option (Int32 × mM) :=
  ob1 (ob1 (if (((¬ ((F_Mod_isIn kind_ (nI 0) (nI 5)) = true) ∨ ¬ ((F_Mod_isIn size_ (nI 1) (nI 9)) = true)) ∨ ¬ ((F_Mod_isIn life_ (nI 0) (nI 9)) = true)) ∨ ¬ ((F_Mod_isInch inch_) = true)) then some (true)
  else ob1 (F_Mod_isTaken z inch_ M) fun v34 =>
  some (v34)) fun x24 =>
  if x24 = true then some (true)
  else ob1 (ra M 313 270 (nI 8)) fun v33 =>
  some (decide (v33 = (nI 20)))) fun x1 =>
  if x1 = true then
  some ((-1), M)
  else
  ob1 (F_Mod_keepsAhead z M) fun M19 =>
  ob2 (F_Mod_isStuck kind_ size_ life_ inch_ M19) fun v21 M22 =>
  some (v21, M22)
theorem s_Mod_put {kind_ : Int32} {size_ : Int32} {life_ : Int32} {inch_ : Int32} {M : mM} {r : Int32} {M' : mM} (h : F_Mod_put z kind_ size_ life_ inch_ M = some (r, M')) (hq : Q (some (.int r)) (lay M')) : Sp X (d + 3) f_Mod_put [.ref 312, .int kind_, .int size_, .int life_, .int inch_] (lay M) Q := by
  refine Sp_of (by decide) rfl (Nat.le_of_ble_eq_true rfl) ?_
  refine wp_aload_n d_Mod_put_0 rfl rfl ?_
  refine wp_iconst d_Mod_put_1 (v := nI 0) rfl ?_
  refine wl_putC d_Mod_put_2 lp_Mod_107 sh_312 rfl ⟨rfl, rfl⟩ ?_
  obtain ⟨x1, e2, h⟩ := ob1_some h
  have k15 : x1 = true → wp X (d + 3) f_Mod_put (0, 0) 67 [.ref 312, .int kind_, .int size_, .int life_, .int inch_] [] (lay M) Q := by
    intro x16
    replace h := ip h x16
    refine wp_iconst d_Mod_put_67 (v := (-1)) rfl ?_
    cases h
    exact wp_iret d_Mod_put_68 rfl rfl rfl hq
  have k17 : ¬ x1 = true → wp X (d + 3) f_Mod_put (0, 0) 69 [.ref 312, .int kind_, .int size_, .int life_, .int inch_] [] (lay M) Q := by
    intro x18
    replace h := inn h x18
    refine wp_aload_n d_Mod_put_69 rfl rfl ?_
    obtain ⟨M19, e20, h⟩ := ob1_some h
    refine wl_callV0 d_Mod_put_70 lc_Mod_keepsAhead lv_Mod_345 rfl sh_312 rfl rfl ⟨rfl, rfl⟩ ⟨by decide, by decide⟩ ?_
    refine s_Mod_keepsAhead (d := d + 2) e20 ?_
    refine wp_aload_n d_Mod_put_73 rfl rfl ?_
    refine wp_iload_n d_Mod_put_74 rfl rfl ?_
    refine wp_iload_n d_Mod_put_75 rfl rfl ?_
    refine wp_iload_n d_Mod_put_76 rfl rfl ?_
    refine wp_iload d_Mod_put_77 rfl ?_
    obtain ⟨v21, M22, e23, h⟩ := ob2_some h
    refine wl_callV4 d_Mod_put_79 lc_Mod_isStuck lv_Mod_341 rfl sh_312 rfl rfl ⟨rfl, rfl⟩ ⟨by decide, by decide⟩ ?_
    refine s_Mod_isStuck (d := d + 1) e23 ?_
    cases h
    exact wp_iret d_Mod_put_82 rfl rfl rfl hq
  obtain ⟨x24, e25, e2⟩ := ob1_some e2
  have k28 : x24 = true → wp X (d + 3) f_Mod_put (0, 0) 67 [.ref 312, .int kind_, .int size_, .int life_, .int inch_] [] (lay M) Q := by
    intro x29
    replace e2 := ip e2 x29
    cases e2
    exact k15 rfl
  have k30 : ¬ x24 = true → wp X (d + 3) f_Mod_put (0, 0) 55 [.ref 312, .int kind_, .int size_, .int life_, .int inch_] [] (lay M) Q := by
    intro x31
    replace e2 := inn e2 x31
    refine wp_aload_n d_Mod_put_55 rfl rfl ?_
    refine wl_getR d_Mod_put_56 lf_Mod_7 sh_312 rfl ?_
    refine wp_bipush d_Mod_put_59 (v := nI 8) rfl ?_
    obtain ⟨v33, e32, e2⟩ := ob1_some e2
    refine wa_ald d_Mod_put_61 sh_313 e32 ?_
    refine wp_bipush d_Mod_put_62 (v := nI 20) rfl ?_
    refine wq_icmp_ne 69 d_Mod_put_64 rfl (fun h64 => ?_) (fun h64 => ?_)
    · cases e2
      exact k17 (fun z => h64 (of_decide_eq_true z))
    · cases e2
      exact k15 (decide_eq_true h64)
  refine wp_aload_n d_Mod_put_5 rfl rfl ?_
  refine wp_iload_n d_Mod_put_6 rfl rfl ?_
  refine wp_iconst d_Mod_put_7 (v := nI 0) rfl ?_
  refine wp_iconst d_Mod_put_8 (v := nI 5) rfl ?_
  refine wl_callV3 d_Mod_put_9 lc_Mod_isIn lv_Mod_135 rfl sh_312 rfl rfl ⟨rfl, rfl⟩ ⟨by decide, by decide⟩ ?_
  refine s_Mod_isIn (d := d + 2) rfl ?_
  refine wc_eq 67 d_Mod_put_12 rfl (fun h12 => ?_) (fun h12 => ?_)
  · replace e25 := ip e25 (Or.inl (Or.inl (Or.inl h12)))
    cases e25
    exact k28 rfl
  · refine wp_aload_n d_Mod_put_15 rfl rfl ?_
    refine wp_iload_n d_Mod_put_16 rfl rfl ?_
    refine wp_iconst d_Mod_put_17 (v := nI 1) rfl ?_
    refine wp_bipush d_Mod_put_18 (v := nI 9) rfl ?_
    refine wl_callV3 d_Mod_put_20 lc_Mod_isIn lv_Mod_135 rfl sh_312 rfl rfl ⟨rfl, rfl⟩ ⟨by decide, by decide⟩ ?_
    refine s_Mod_isIn (d := d + 2) rfl ?_
    refine wc_eq 67 d_Mod_put_23 rfl (fun h23 => ?_) (fun h23 => ?_)
    · replace e25 := ip e25 (Or.inl (Or.inl (Or.inr h23)))
      cases e25
      exact k28 rfl
    · refine wp_aload_n d_Mod_put_26 rfl rfl ?_
      refine wp_iload_n d_Mod_put_27 rfl rfl ?_
      refine wp_iconst d_Mod_put_28 (v := nI 0) rfl ?_
      refine wp_bipush d_Mod_put_29 (v := nI 9) rfl ?_
      refine wl_callV3 d_Mod_put_31 lc_Mod_isIn lv_Mod_135 rfl sh_312 rfl rfl ⟨rfl, rfl⟩ ⟨by decide, by decide⟩ ?_
      refine s_Mod_isIn (d := d + 2) rfl ?_
      refine wc_eq 67 d_Mod_put_34 rfl (fun h34 => ?_) (fun h34 => ?_)
      · replace e25 := ip e25 (Or.inl (Or.inr h34))
        cases e25
        exact k28 rfl
      · refine wp_aload_n d_Mod_put_37 rfl rfl ?_
        refine wp_iload d_Mod_put_38 rfl ?_
        refine wl_callV1 d_Mod_put_40 lc_Mod_isInch lv_Mod_131 rfl sh_312 rfl rfl ⟨rfl, rfl⟩ ⟨by decide, by decide⟩ ?_
        refine s_Mod_isInch (d := d + 2) rfl ?_
        refine wc_eq 67 d_Mod_put_43 rfl (fun h43 => ?_) (fun h43 => ?_)
        · replace e25 := ip e25 (Or.inr h43)
          cases e25
          exact k28 rfl
        · replace e25 := inn e25 (fun z => z.elim (fun z => z.elim (fun z => z.elim (fun z => z h12) (fun z => z h23)) (fun z => z h34)) (fun z => z h43))
          refine wp_aload_n d_Mod_put_46 rfl rfl ?_
          refine wp_iload d_Mod_put_47 rfl ?_
          obtain ⟨v34, e35, e25⟩ := ob1_some e25
          refine wl_callV1 d_Mod_put_49 lc_Mod_isTaken lv_Mod_332 rfl sh_312 rfl rfl ⟨rfl, rfl⟩ ⟨by decide, by decide⟩ ?_
          refine s_Mod_isTaken (d := d) e35 ?_
          refine wc_ne 67 d_Mod_put_52 rfl (fun h52 => ?_) (fun h52 => ?_)
          · cases e25
            exact k28 h52
          · cases e25
            exact k30 h52
def F_Mod_act (z : Nat) (what_ : Int32) (who_ : Int32) (v_ : Int32) (M : mM) : Option (Bool × mM) :=
  ob1 (ob1 (ob1 (if what_ = (nI 0) then ob1 (F_Mod_thingOf z who_ M) fun v73 =>
  some (decide (v73 = (-1)))
  else some (false)) fun x65 =>
  if x65 = true then some (true)
  else some (decide ((what_ = (nI 1) ∧ (¬ ((F_Mod_isInch who_) = true) ∨ ¬ ((F_Mod_isIn v_ (nI 0) (nI 99)) = true)))))) fun x49 =>
  if x49 = true then some (true)
  else some (decide (¬ ((F_Mod_isIn what_ (nI 0) (nI 1)) = true)))) fun x1 =>
  if x1 = true then
  some (false, M)
  else
  ob1 (F_Mod_keepsAhead z M) fun M33 =>
  if what_ = (nI 1) then
  ob1 (F_Mod_hasGlue who_ v_ M33) fun M47 =>
  some (true, M47)
  else
  ob1 (F_Mod_thingOf z who_ M33) fun v35 =>
  ob1 (ra M33 313 270 (nI 7)) fun v38 =>
  ob1 (wa M33 313 270 (nI 7) (v38 + (nI 1))) fun M40 =>
  ob1 (ra M40 313 270 ((F_Mod_thingAt v35) + (nI 4))) fun v42 =>
  ob1 (F_Mod_notes (nI 5) who_ v42 M40) fun M43 =>
  ob1 (F_Mod_isGone z v35 M43) fun M45 =>
  some (true, M45)
theorem s_Mod_act {what_ : Int32} {who_ : Int32} {v_ : Int32} {M : mM} {r : Bool} {M' : mM} (h : F_Mod_act z what_ who_ v_ M = some (r, M')) (hq : Q (some (.int (bI r))) (lay M')) : Sp X (d + 2) f_Mod_act [.ref 312, .int what_, .int who_, .int v_] (lay M) Q := by
  refine Sp_of (by decide) rfl (Nat.le_of_ble_eq_true rfl) ?_
  refine wp_aload_n d_Mod_act_0 rfl rfl ?_
  refine wp_iconst d_Mod_act_1 (v := nI 0) rfl ?_
  refine wl_putC d_Mod_act_2 lp_Mod_107 sh_312 rfl ⟨rfl, rfl⟩ ?_
  obtain ⟨x1, e2, h⟩ := ob1_some h
  have k29 : ∀ u4 : Value, x1 = true → wp X (d + 2) f_Mod_act (0, 0) 52 [.ref 312, .int what_, .int who_, .int v_, u4] [] (lay M) Q := by
    intro u4 x30
    replace h := ip h x30
    refine wp_iconst d_Mod_act_52 (v := bI false) rfl ?_
    cases h
    exact wb_iret d_Mod_act_53 rfl rfl hq
  have k31 : ∀ u4 : Value, ¬ x1 = true → wp X (d + 2) f_Mod_act (0, 0) 54 [.ref 312, .int what_, .int who_, .int v_, u4] [] (lay M) Q := by
    intro u4 x32
    replace h := inn h x32
    refine wp_aload_n d_Mod_act_54 rfl rfl ?_
    obtain ⟨M33, e34, h⟩ := ob1_some h
    refine wl_callV0 d_Mod_act_55 lc_Mod_keepsAhead lv_Mod_345 rfl sh_312 rfl rfl ⟨rfl, rfl⟩ ⟨by decide, by decide⟩ ?_
    refine s_Mod_keepsAhead (d := d + 1) e34 ?_
    refine wp_iload_n d_Mod_act_58 rfl rfl ?_
    refine wp_iconst d_Mod_act_59 (v := nI 1) rfl ?_
    refine wq_icmp_ne 71 d_Mod_act_60 rfl (fun h60 => ?_) (fun h60 => ?_)
    · replace h := inn h h60
      refine wp_aload_n d_Mod_act_71 rfl rfl ?_
      refine wp_iload_n d_Mod_act_72 rfl rfl ?_
      obtain ⟨v35, e36, h⟩ := ob1_some h
      refine wl_callV1 d_Mod_act_73 lc_Mod_thingOf lv_Mod_139 rfl sh_312 rfl rfl ⟨rfl, rfl⟩ ⟨by decide, by decide⟩ ?_
      refine s_Mod_thingOf (d := d) e36 ?_
      refine wp_istore d_Mod_act_76 (by decide) ?_
      refine wp_aload_n d_Mod_act_78 rfl rfl ?_
      refine wl_getR d_Mod_act_79 lf_Mod_7 sh_312 rfl ?_
      refine wp_bipush d_Mod_act_82 (v := nI 7) rfl ?_
      refine wp_aload_n d_Mod_act_84 rfl rfl ?_
      refine wl_getR d_Mod_act_85 lf_Mod_7 sh_312 rfl ?_
      refine wp_bipush d_Mod_act_88 (v := nI 7) rfl ?_
      obtain ⟨v38, e37, h⟩ := ob1_some h
      refine wa_ald d_Mod_act_90 sh_313 e37 ?_
      refine wp_iconst d_Mod_act_91 (v := nI 1) rfl ?_
      refine wp_iadd d_Mod_act_92 ?_
      obtain ⟨M40, e39, h⟩ := ob1_some h
      refine wa_ast d_Mod_act_93 sh_313 e39 ?_
      refine wp_aload_n d_Mod_act_94 rfl rfl ?_
      refine wp_iconst d_Mod_act_95 (v := nI 5) rfl ?_
      refine wp_iload_n d_Mod_act_96 rfl rfl ?_
      refine wp_aload_n d_Mod_act_97 rfl rfl ?_
      refine wl_getR d_Mod_act_98 lf_Mod_7 sh_312 rfl ?_
      refine wp_aload_n d_Mod_act_101 rfl rfl ?_
      refine wp_iload d_Mod_act_102 rfl ?_
      refine wl_callV1 d_Mod_act_104 lc_Mod_thingAt lv_Mod_124 rfl sh_312 rfl rfl ⟨rfl, rfl⟩ ⟨by decide, by decide⟩ ?_
      refine s_Mod_thingAt (d := d + 1) rfl ?_
      refine wp_iconst d_Mod_act_107 (v := nI 4) rfl ?_
      refine wp_iadd d_Mod_act_108 ?_
      obtain ⟨v42, e41, h⟩ := ob1_some h
      refine wa_ald d_Mod_act_109 sh_313 e41 ?_
      obtain ⟨M43, e44, h⟩ := ob1_some h
      refine wl_callV3 d_Mod_act_110 lc_Mod_notes lv_Mod_328 rfl sh_312 rfl rfl ⟨rfl, rfl⟩ ⟨by decide, by decide⟩ ?_
      refine s_Mod_notes (d := d + 1) e44 ?_
      refine wp_aload_n d_Mod_act_113 rfl rfl ?_
      refine wp_iload d_Mod_act_114 rfl ?_
      obtain ⟨M45, e46, h⟩ := ob1_some h
      refine wl_callV1 d_Mod_act_116 lc_Mod_isGone lv_Mod_348 rfl sh_312 rfl rfl ⟨rfl, rfl⟩ ⟨by decide, by decide⟩ ?_
      refine s_Mod_isGone (d := d) e46 ?_
      refine wp_iconst d_Mod_act_119 (v := bI true) rfl ?_
      cases h
      exact wb_iret d_Mod_act_120 rfl rfl hq
    · replace h := ip h h60
      refine wp_aload_n d_Mod_act_63 rfl rfl ?_
      refine wp_iload_n d_Mod_act_64 rfl rfl ?_
      refine wp_iload_n d_Mod_act_65 rfl rfl ?_
      obtain ⟨M47, e48, h⟩ := ob1_some h
      refine wl_callV2 d_Mod_act_66 lc_Mod_hasGlue lv_Mod_145 rfl sh_312 rfl rfl ⟨rfl, rfl⟩ ⟨by decide, by decide⟩ ?_
      refine s_Mod_hasGlue (d := d) e48 ?_
      refine wp_iconst d_Mod_act_69 (v := bI true) rfl ?_
      cases h
      exact wb_iret d_Mod_act_70 rfl rfl hq
  obtain ⟨x49, e50, e2⟩ := ob1_some e2
  have k61 : ∀ u4 : Value, x49 = true → wp X (d + 2) f_Mod_act (0, 0) 52 [.ref 312, .int what_, .int who_, .int v_, u4] [] (lay M) Q := by
    intro u4 x62
    replace e2 := ip e2 x62
    cases e2
    exact k29 _ rfl
  have k63 : ∀ u4 : Value, ¬ x49 = true → wp X (d + 2) f_Mod_act (0, 0) 42 [.ref 312, .int what_, .int who_, .int v_, u4] [] (lay M) Q := by
    intro u4 x64
    replace e2 := inn e2 x64
    refine wp_aload_n d_Mod_act_42 rfl rfl ?_
    refine wp_iload_n d_Mod_act_43 rfl rfl ?_
    refine wp_iconst d_Mod_act_44 (v := nI 0) rfl ?_
    refine wp_iconst d_Mod_act_45 (v := nI 1) rfl ?_
    refine wl_callV3 d_Mod_act_46 lc_Mod_isIn lv_Mod_135 rfl sh_312 rfl rfl ⟨rfl, rfl⟩ ⟨by decide, by decide⟩ ?_
    refine s_Mod_isIn (d := d + 1) rfl ?_
    refine wc_ne 54 d_Mod_act_49 rfl (fun h49 => ?_) (fun h49 => ?_)
    · cases e2
      exact k31 _ (fun z => (fun z => z h49) (of_decide_eq_true z))
    · cases e2
      exact k29 _ (decide_eq_true h49)
  obtain ⟨x65, e66, e50⟩ := ob1_some e50
  have k69 : ∀ u4 : Value, x65 = true → wp X (d + 2) f_Mod_act (0, 0) 52 [.ref 312, .int what_, .int who_, .int v_, u4] [] (lay M) Q := by
    intro u4 x70
    replace e50 := ip e50 x70
    cases e50
    exact k61 _ rfl
  have k71 : ∀ u4 : Value, ¬ x65 = true → wp X (d + 2) f_Mod_act (0, 0) 18 [.ref 312, .int what_, .int who_, .int v_, u4] [] (lay M) Q := by
    intro u4 x72
    replace e50 := inn e50 x72
    refine wp_iload_n d_Mod_act_18 rfl rfl ?_
    refine wp_iconst d_Mod_act_19 (v := nI 1) rfl ?_
    refine wq_icmp_ne 42 d_Mod_act_20 rfl (fun h20 => ?_) (fun h20 => ?_)
    · cases e50
      exact k63 _ (fun z => (fun z => h20 z.1) (of_decide_eq_true z))
    · refine wp_aload_n d_Mod_act_23 rfl rfl ?_
      refine wp_iload_n d_Mod_act_24 rfl rfl ?_
      refine wl_callV1 d_Mod_act_25 lc_Mod_isInch lv_Mod_131 rfl sh_312 rfl rfl ⟨rfl, rfl⟩ ⟨by decide, by decide⟩ ?_
      refine s_Mod_isInch (d := d + 1) rfl ?_
      refine wc_eq 52 d_Mod_act_28 rfl (fun h28 => ?_) (fun h28 => ?_)
      · cases e50
        exact k61 _ (decide_eq_true ⟨h20, (Or.inl h28)⟩)
      · refine wp_aload_n d_Mod_act_31 rfl rfl ?_
        refine wp_iload_n d_Mod_act_32 rfl rfl ?_
        refine wp_iconst d_Mod_act_33 (v := nI 0) rfl ?_
        refine wp_bipush d_Mod_act_34 (v := nI 99) rfl ?_
        refine wl_callV3 d_Mod_act_36 lc_Mod_isIn lv_Mod_135 rfl sh_312 rfl rfl ⟨rfl, rfl⟩ ⟨by decide, by decide⟩ ?_
        refine s_Mod_isIn (d := d + 1) rfl ?_
        refine wc_eq 52 d_Mod_act_39 rfl (fun h39 => ?_) (fun h39 => ?_)
        · cases e50
          exact k61 _ (decide_eq_true ⟨h20, (Or.inr h39)⟩)
        · cases e50
          exact k63 _ (fun z => (fun z => (fun z => z.elim (fun z => z h28) (fun z => z h39)) z.2) (of_decide_eq_true z))
  refine wp_iload_n d_Mod_act_5 rfl rfl ?_
  refine wz_ne 18 d_Mod_act_6 rfl (fun h6 => ?_) (fun h6 => ?_)
  · replace e66 := inn e66 h6
    cases e66
    exact k71 _ (fun z => Bool.noConfusion z)
  · replace e66 := ip e66 h6
    refine wp_aload_n d_Mod_act_9 rfl rfl ?_
    refine wp_iload_n d_Mod_act_10 rfl rfl ?_
    obtain ⟨v73, e74, e66⟩ := ob1_some e66
    refine wl_callV1 d_Mod_act_11 lc_Mod_thingOf lv_Mod_139 rfl sh_312 rfl rfl ⟨rfl, rfl⟩ ⟨by decide, by decide⟩ ?_
    refine s_Mod_thingOf (d := d) e74 ?_
    refine wp_iconst d_Mod_act_14 (v := (-1)) rfl ?_
    refine wq_icmp_eq 52 d_Mod_act_15 rfl (fun h15 => ?_) (fun h15 => ?_)
    · cases e66
      exact k69 _ (decide_eq_true h15)
    · cases e66
      exact k71 _ (fun z => h15 (of_decide_eq_true z))
def L_Mod_does_1 (z : Nat) (what_ : Int32) (n_ : Int32) : Nat → Int32 → mM → Option (mM)
  | 0, _, _ => none
  | n + 1, i_, M =>
    if (i_ < (nI 60) ∧ what_ = (nI 3)) then
    ob1 (F_Mod_glue i_ M) fun v24 =>
    ob1 (F_Mod_hasGlue i_ (v24 - n_) M) fun M26 =>
    L_Mod_does_1 z what_ n_ n (i_ + nI 1) M26
    else
    some (M)
def F_Mod_does (z : Nat) (at_ : Int32) (M : mM) : Option mM :=
  ob1 (ra M 328 128 (at_ + (nI 1))) fun v2 =>
  ob1 (ra M 328 128 (at_ + (nI 2))) fun v4 =>
  ob1 (if v2 = (nI 0) then
  ob1 (wa M 313 270 (nI 3) v4) fun M37 =>
  some (M37)
  else
  some (M)) fun M8 =>
  ob1 (if v2 = (nI 1) then
  ob1 (wa M8 313 270 (nI 4) v4) fun M35 =>
  some (M35)
  else
  some (M8)) fun M13 =>
  ob1 (if v2 = (nI 2) then
  ob1 (ra M13 328 128 (at_ + (nI 3))) fun v31 =>
  ob1 (F_Mod_hasGlue v4 v31 M13) fun M32 =>
  some (M32)
  else
  some (M13)) fun M20 =>
  ob1 (L_Mod_does_1 z v2 v4 z (nI 0) M20) fun M28 =>
  some M28
theorem l_Mod_does_1 {what_ : Int32} {n_ : Int32}  {q1 : Value} {N' : mM} (K : ∀ u4 : Value, wp X (d + 2) f_Mod_does (0, 0) 94 [.ref 312, q1, .int what_, .int n_, u4] [] (lay N') Q) : ∀ (n : Nat) (i_ : Int32) (M : mM), L_Mod_does_1 z what_ n_ n i_ M = some (N') → wp X (d + 2) f_Mod_does (0, 0) 62 [.ref 312, q1, .int what_, .int n_, .int i_] [] (lay M) Q := by
  intro n
  induction n with
  | zero => intro i_ M h; exact nn h
  | succ n ih =>
    intro i_ M h
    have k22 : ¬ (i_ < (nI 60) ∧ what_ = (nI 3)) → wp X (d + 2) f_Mod_does (0, 0) 94 [.ref 312, q1, .int what_, .int n_, .int i_] [] (lay M) Q := by
      intro x23
      replace h := inn h x23
      cases h
      exact K _
    refine wp_iload d_Mod_does_62 rfl ?_
    refine wp_bipush d_Mod_does_64 (v := nI 60) rfl ?_
    refine wq_icmp_ge 94 d_Mod_does_66 rfl (fun h66 => ?_) (fun h66 => ?_)
    · exact k22 (fun z => h66 z.1)
    · refine wp_iload_n d_Mod_does_69 rfl rfl ?_
      refine wp_iconst d_Mod_does_70 (v := nI 3) rfl ?_
      refine wq_icmp_ne 94 d_Mod_does_71 rfl (fun h71 => ?_) (fun h71 => ?_)
      · exact k22 (fun z => h71 z.2)
      · replace h := ip h ⟨h66, h71⟩
        refine wp_aload_n d_Mod_does_74 rfl rfl ?_
        refine wp_iload d_Mod_does_75 rfl ?_
        refine wp_aload_n d_Mod_does_77 rfl rfl ?_
        refine wp_iload d_Mod_does_78 rfl ?_
        obtain ⟨v24, e25, h⟩ := ob1_some h
        refine wl_callV1 d_Mod_does_80 lc_Mod_glue lv_Mod_309 rfl sh_312 rfl rfl ⟨rfl, rfl⟩ ⟨by decide, by decide⟩ ?_
        refine s_Mod_glue (d := d + 1) e25 ?_
        refine wp_iload_n d_Mod_does_83 rfl rfl ?_
        refine wp_isub d_Mod_does_84 ?_
        obtain ⟨M26, e27, h⟩ := ob1_some h
        refine wl_callV2 d_Mod_does_85 lc_Mod_hasGlue lv_Mod_145 rfl sh_312 rfl rfl ⟨rfl, rfl⟩ ⟨by decide, by decide⟩ ?_
        refine s_Mod_hasGlue (d := d) e27 ?_
        refine wp_iinc d_Mod_does_88 (v := i_ + nI 1) rfl rfl ?_
        refine wp_goto 62 d_Mod_does_91 rfl ?_
        exact ih _ _ h
theorem s_Mod_does {at_ : Int32} {M : mM} {M' : mM} (h : F_Mod_does z at_ M = some M') (hq : Q none (lay M')) : Sp X (d + 2) f_Mod_does [.ref 312, .int at_] (lay M) Q := by
  refine Sp_of (by decide) rfl (Nat.le_of_ble_eq_true rfl) ?_
  refine wp_aload_n d_Mod_does_0 rfl rfl ?_
  refine wl_getR d_Mod_does_1 lf_Mod_59 sh_312 rfl ?_
  refine wp_iload_n d_Mod_does_4 rfl rfl ?_
  refine wp_iconst d_Mod_does_5 (v := nI 1) rfl ?_
  refine wp_iadd d_Mod_does_6 ?_
  obtain ⟨v2, e1, h⟩ := ob1_some h
  refine wa_ald d_Mod_does_7 sh_328 e1 ?_
  refine wp_istore_n d_Mod_does_8 rfl (by decide) ?_
  refine wp_aload_n d_Mod_does_9 rfl rfl ?_
  refine wl_getR d_Mod_does_10 lf_Mod_59 sh_312 rfl ?_
  refine wp_iload_n d_Mod_does_13 rfl rfl ?_
  refine wp_iconst d_Mod_does_14 (v := nI 2) rfl ?_
  refine wp_iadd d_Mod_does_15 ?_
  obtain ⟨v4, e3, h⟩ := ob1_some h
  refine wa_ald d_Mod_does_16 sh_328 e3 ?_
  refine wp_istore_n d_Mod_does_17 rfl (by decide) ?_
  obtain ⟨M8, e9, h⟩ := ob1_some h
  have k7 : ∀ u4 : Value, wp X (d + 2) f_Mod_does (0, 0) 29 [.ref 312, .int at_, .int v2, .int v4, u4] [] (lay M8) Q := by
    intro u4
    obtain ⟨M13, e14, h⟩ := ob1_some h
    have k12 : ∀ u4 : Value, wp X (d + 2) f_Mod_does (0, 0) 41 [.ref 312, .int at_, .int v2, .int v4, u4] [] (lay M13) Q := by
      intro u4
      obtain ⟨M20, e21, h⟩ := ob1_some h
      have k19 : ∀ u4 : Value, wp X (d + 2) f_Mod_does (0, 0) 59 [.ref 312, .int at_, .int v2, .int v4, u4] [] (lay M20) Q := by
        intro u4
        refine wp_iconst d_Mod_does_59 (v := nI 0) rfl ?_
        refine wp_istore d_Mod_does_60 (by decide) ?_
        obtain ⟨M28, e29, h⟩ := ob1_some h
        refine l_Mod_does_1 ?_ _ _ _ e29
        intro u4
        cases h
        exact wp_ret d_Mod_does_94 rfl rfl hq
      refine wp_iload_n d_Mod_does_41 rfl rfl ?_
      refine wp_iconst d_Mod_does_42 (v := nI 2) rfl ?_
      refine wq_icmp_ne 59 d_Mod_does_43 rfl (fun h43 => ?_) (fun h43 => ?_)
      · replace e21 := inn e21 h43
        cases e21
        exact k19 _
      · replace e21 := ip e21 h43
        refine wp_aload_n d_Mod_does_46 rfl rfl ?_
        refine wp_iload_n d_Mod_does_47 rfl rfl ?_
        refine wp_aload_n d_Mod_does_48 rfl rfl ?_
        refine wl_getR d_Mod_does_49 lf_Mod_59 sh_312 rfl ?_
        refine wp_iload_n d_Mod_does_52 rfl rfl ?_
        refine wp_iconst d_Mod_does_53 (v := nI 3) rfl ?_
        refine wp_iadd d_Mod_does_54 ?_
        obtain ⟨v31, e30, e21⟩ := ob1_some e21
        refine wa_ald d_Mod_does_55 sh_328 e30 ?_
        obtain ⟨M32, e33, e21⟩ := ob1_some e21
        refine wl_callV2 d_Mod_does_56 lc_Mod_hasGlue lv_Mod_145 rfl sh_312 rfl rfl ⟨rfl, rfl⟩ ⟨by decide, by decide⟩ ?_
        refine s_Mod_hasGlue (d := d) e33 ?_
        cases e21
        exact k19 _
    refine wp_iload_n d_Mod_does_29 rfl rfl ?_
    refine wp_iconst d_Mod_does_30 (v := nI 1) rfl ?_
    refine wq_icmp_ne 41 d_Mod_does_31 rfl (fun h31 => ?_) (fun h31 => ?_)
    · replace e14 := inn e14 h31
      cases e14
      exact k12 _
    · replace e14 := ip e14 h31
      refine wp_aload_n d_Mod_does_34 rfl rfl ?_
      refine wl_getR d_Mod_does_35 lf_Mod_7 sh_312 rfl ?_
      refine wp_iconst d_Mod_does_38 (v := nI 4) rfl ?_
      refine wp_iload_n d_Mod_does_39 rfl rfl ?_
      obtain ⟨M35, e34, e14⟩ := ob1_some e14
      refine wa_ast d_Mod_does_40 sh_313 e34 ?_
      cases e14
      exact k12 _
  refine wp_iload_n d_Mod_does_18 rfl rfl ?_
  refine wz_ne 29 d_Mod_does_19 rfl (fun h19 => ?_) (fun h19 => ?_)
  · replace e9 := inn e9 h19
    cases e9
    exact k7 _
  · replace e9 := ip e9 h19
    refine wp_aload_n d_Mod_does_22 rfl rfl ?_
    refine wl_getR d_Mod_does_23 lf_Mod_7 sh_312 rfl ?_
    refine wp_iconst d_Mod_does_26 (v := nI 3) rfl ?_
    refine wp_iload_n d_Mod_does_27 rfl rfl ?_
    obtain ⟨M37, e36, e9⟩ := ob1_some e9
    refine wa_ast d_Mod_does_28 sh_313 e36 ?_
    cases e9
    exact k7 _
def F_Mod_isFreed (z : Nat) (t_ : Int32) (M : mM) : Option (Bool × mM) :=
  ob2 (F_Mod_freesOf z t_ M) fun v1 M2 =>
  ob2 (if ¬ ((M2 312 5) = nI 0) then
  some (decide (¬ (((nI 2) * v1) < (nI 1000))), M2)
  else
  ob2 (if (nI 0) < v1 then ob2 (F_Mod_draw (nI 1000) M2) fun v72 M73 =>
  some (decide (v72 < v1), M73)
  else some (false, M2)) fun x69 M71 =>
  some (x69, M71)) fun v16 M18 =>
  if ¬ (v16 = true) then
  some (false, M18)
  else
  ob1 (ob1 (ra M18 313 270 ((F_Mod_thingAt t_) + (nI 6))) fun v64 =>
  some (decide ((nI 1) < v64))) fun x19 =>
  if x19 = true then
  ob1 (ra M18 313 270 ((F_Mod_thingAt t_) + (nI 6))) fun v26 =>
  ob1 (wa M18 313 270 ((F_Mod_thingAt t_) + (nI 6)) (v26 - (nI 1))) fun M28 =>
  ob1 (ra M28 313 270 ((F_Mod_thingAt t_) + (nI 4))) fun v30 =>
  ob1 (ra M28 313 270 ((F_Mod_thingAt t_) + (nI 4))) fun v32 =>
  ob1 (ra M28 313 270 ((nI 70) + v32)) fun v34 =>
  ob1 (wa M28 313 270 ((nI 70) + v30) (v34 + (nI 1))) fun M36 =>
  ob1 (ra M36 313 270 ((F_Mod_thingAt t_) + (nI 3))) fun v38 =>
  ob1 (some (F_Mod_greater (nI 0) (v38 - (nI 1)))) fun v39 =>
  ob1 (wa M36 313 270 ((F_Mod_thingAt t_) + (nI 3)) v39) fun M42 =>
  ob1 (ra M42 313 270 (F_Mod_thingAt t_)) fun v44 =>
  ob1 (ra M42 313 270 ((F_Mod_thingAt t_) + (nI 4))) fun v46 =>
  ob1 (F_Mod_notes (nI 2) v44 v46 M42) fun M47 =>
  some (false, M47)
  else
  ob1 (ra M18 313 270 (nI 6)) fun v52 =>
  ob1 (wa M18 313 270 (nI 6) (v52 + (nI 1))) fun M54 =>
  ob1 (ra M54 313 270 (F_Mod_thingAt t_)) fun v56 =>
  ob1 (ra M54 313 270 ((F_Mod_thingAt t_) + (nI 4))) fun v58 =>
  ob1 (F_Mod_notes (nI 3) v56 v58 M54) fun M59 =>
  ob1 (F_Mod_isGone z t_ M59) fun M61 =>
  some (true, M61)
theorem s_Mod_isFreed {t_ : Int32} {M : mM} {r : Bool} {M' : mM} (h : F_Mod_isFreed z t_ M = some (r, M')) (hq : Q (some (.int (bI r))) (lay M')) : Sp X (d + 5) f_Mod_isFreed [.ref 312, .int t_] (lay M) Q := by
  refine Sp_of (by decide) rfl (Nat.le_of_ble_eq_true rfl) ?_
  refine wp_aload_n d_Mod_isFreed_0 rfl rfl ?_
  refine wp_iload_n d_Mod_isFreed_1 rfl rfl ?_
  refine wl_callV1 d_Mod_isFreed_2 lc_Mod_thingAt lv_Mod_124 rfl sh_312 rfl rfl ⟨rfl, rfl⟩ ⟨by decide, by decide⟩ ?_
  refine s_Mod_thingAt (d := d + 4) rfl ?_
  refine wp_istore_n d_Mod_isFreed_5 rfl (by decide) ?_
  refine wp_aload_n d_Mod_isFreed_6 rfl rfl ?_
  refine wp_iload_n d_Mod_isFreed_7 rfl rfl ?_
  obtain ⟨v1, M2, e3, h⟩ := ob2_some h
  refine wl_callV1 d_Mod_isFreed_8 lc_Mod_freesOf lv_Mod_351 rfl sh_312 rfl rfl ⟨rfl, rfl⟩ ⟨by decide, by decide⟩ ?_
  refine s_Mod_freesOf (d := d) e3 ?_
  refine wp_istore_n d_Mod_isFreed_11 rfl (by decide) ?_
  obtain ⟨v16, M18, e17, h⟩ := ob2_some h
  have k15 : ∀ u4 : Value, wp X (d + 5) f_Mod_isFreed (0, 0) 56 [.ref 312, .int t_, .int (F_Mod_thingAt t_), .int v1, u4] [.int (bI v16)] (lay M18) Q := by
    intro u4
    refine wp_istore d_Mod_isFreed_56 (by decide) ?_
    refine wp_iload d_Mod_isFreed_58 rfl ?_
    refine wc_ne 65 d_Mod_isFreed_60 rfl (fun h60 => ?_) (fun h60 => ?_)
    · replace h := inn h (fun z => z h60)
      obtain ⟨x19, e20, h⟩ := ob1_some h
      have k23 : x19 = true → wp X (d + 5) f_Mod_isFreed (0, 0) 78 [.ref 312, .int t_, .int (F_Mod_thingAt t_), .int v1, .int (bI v16)] [] (lay M18) Q := by
        intro x24
        replace h := ip h x24
        refine wp_aload_n d_Mod_isFreed_78 rfl rfl ?_
        refine wl_getR d_Mod_isFreed_79 lf_Mod_7 sh_312 rfl ?_
        refine wp_iload_n d_Mod_isFreed_82 rfl rfl ?_
        refine wp_bipush d_Mod_isFreed_83 (v := nI 6) rfl ?_
        refine wp_iadd d_Mod_isFreed_85 ?_
        refine wp_aload_n d_Mod_isFreed_86 rfl rfl ?_
        refine wl_getR d_Mod_isFreed_87 lf_Mod_7 sh_312 rfl ?_
        refine wp_iload_n d_Mod_isFreed_90 rfl rfl ?_
        refine wp_bipush d_Mod_isFreed_91 (v := nI 6) rfl ?_
        refine wp_iadd d_Mod_isFreed_93 ?_
        obtain ⟨v26, e25, h⟩ := ob1_some h
        refine wa_ald d_Mod_isFreed_94 sh_313 e25 ?_
        refine wp_iconst d_Mod_isFreed_95 (v := nI 1) rfl ?_
        refine wp_isub d_Mod_isFreed_96 ?_
        obtain ⟨M28, e27, h⟩ := ob1_some h
        refine wa_ast d_Mod_isFreed_97 sh_313 e27 ?_
        refine wp_aload_n d_Mod_isFreed_98 rfl rfl ?_
        refine wl_getR d_Mod_isFreed_99 lf_Mod_7 sh_312 rfl ?_
        refine wp_bipush d_Mod_isFreed_102 (v := nI 70) rfl ?_
        refine wp_aload_n d_Mod_isFreed_104 rfl rfl ?_
        refine wl_getR d_Mod_isFreed_105 lf_Mod_7 sh_312 rfl ?_
        refine wp_iload_n d_Mod_isFreed_108 rfl rfl ?_
        refine wp_iconst d_Mod_isFreed_109 (v := nI 4) rfl ?_
        refine wp_iadd d_Mod_isFreed_110 ?_
        obtain ⟨v30, e29, h⟩ := ob1_some h
        refine wa_ald d_Mod_isFreed_111 sh_313 e29 ?_
        refine wp_iadd d_Mod_isFreed_112 ?_
        refine wp_aload_n d_Mod_isFreed_113 rfl rfl ?_
        refine wl_getR d_Mod_isFreed_114 lf_Mod_7 sh_312 rfl ?_
        refine wp_bipush d_Mod_isFreed_117 (v := nI 70) rfl ?_
        refine wp_aload_n d_Mod_isFreed_119 rfl rfl ?_
        refine wl_getR d_Mod_isFreed_120 lf_Mod_7 sh_312 rfl ?_
        refine wp_iload_n d_Mod_isFreed_123 rfl rfl ?_
        refine wp_iconst d_Mod_isFreed_124 (v := nI 4) rfl ?_
        refine wp_iadd d_Mod_isFreed_125 ?_
        obtain ⟨v32, e31, h⟩ := ob1_some h
        refine wa_ald d_Mod_isFreed_126 sh_313 e31 ?_
        refine wp_iadd d_Mod_isFreed_127 ?_
        obtain ⟨v34, e33, h⟩ := ob1_some h
        refine wa_ald d_Mod_isFreed_128 sh_313 e33 ?_
        refine wp_iconst d_Mod_isFreed_129 (v := nI 1) rfl ?_
        refine wp_iadd d_Mod_isFreed_130 ?_
        obtain ⟨M36, e35, h⟩ := ob1_some h
        refine wa_ast d_Mod_isFreed_131 sh_313 e35 ?_
        refine wp_aload_n d_Mod_isFreed_132 rfl rfl ?_
        refine wl_getR d_Mod_isFreed_133 lf_Mod_7 sh_312 rfl ?_
        refine wp_iload_n d_Mod_isFreed_136 rfl rfl ?_
        refine wp_iconst d_Mod_isFreed_137 (v := nI 3) rfl ?_
        refine wp_iadd d_Mod_isFreed_138 ?_
        refine wp_aload_n d_Mod_isFreed_139 rfl rfl ?_
        refine wp_iconst d_Mod_isFreed_140 (v := nI 0) rfl ?_
        refine wp_aload_n d_Mod_isFreed_141 rfl rfl ?_
        refine wl_getR d_Mod_isFreed_142 lf_Mod_7 sh_312 rfl ?_
        refine wp_iload_n d_Mod_isFreed_145 rfl rfl ?_
        refine wp_iconst d_Mod_isFreed_146 (v := nI 3) rfl ?_
        refine wp_iadd d_Mod_isFreed_147 ?_
        obtain ⟨v38, e37, h⟩ := ob1_some h
        refine wa_ald d_Mod_isFreed_148 sh_313 e37 ?_
        refine wp_iconst d_Mod_isFreed_149 (v := nI 1) rfl ?_
        refine wp_isub d_Mod_isFreed_150 ?_
        refine wl_callV2 d_Mod_isFreed_151 lc_Mod_greater lv_Mod_354 rfl sh_312 rfl rfl ⟨rfl, rfl⟩ ⟨by decide, by decide⟩ ?_
        refine s_Mod_greater (d := d + 4) rfl ?_
        obtain ⟨v39, e40, h⟩ := ob1_some h
        refine wx_int e40 ?_
        obtain ⟨M42, e41, h⟩ := ob1_some h
        refine wa_ast d_Mod_isFreed_154 sh_313 e41 ?_
        refine wp_aload_n d_Mod_isFreed_155 rfl rfl ?_
        refine wp_iconst d_Mod_isFreed_156 (v := nI 2) rfl ?_
        refine wp_aload_n d_Mod_isFreed_157 rfl rfl ?_
        refine wl_getR d_Mod_isFreed_158 lf_Mod_7 sh_312 rfl ?_
        refine wp_iload_n d_Mod_isFreed_161 rfl rfl ?_
        obtain ⟨v44, e43, h⟩ := ob1_some h
        refine wa_ald d_Mod_isFreed_162 sh_313 e43 ?_
        refine wp_aload_n d_Mod_isFreed_163 rfl rfl ?_
        refine wl_getR d_Mod_isFreed_164 lf_Mod_7 sh_312 rfl ?_
        refine wp_iload_n d_Mod_isFreed_167 rfl rfl ?_
        refine wp_iconst d_Mod_isFreed_168 (v := nI 4) rfl ?_
        refine wp_iadd d_Mod_isFreed_169 ?_
        obtain ⟨v46, e45, h⟩ := ob1_some h
        refine wa_ald d_Mod_isFreed_170 sh_313 e45 ?_
        obtain ⟨M47, e48, h⟩ := ob1_some h
        refine wl_callV3 d_Mod_isFreed_171 lc_Mod_notes lv_Mod_328 rfl sh_312 rfl rfl ⟨rfl, rfl⟩ ⟨by decide, by decide⟩ ?_
        refine s_Mod_notes (d := d + 4) e48 ?_
        refine wp_iconst d_Mod_isFreed_174 (v := bI false) rfl ?_
        cases h
        exact wb_iret d_Mod_isFreed_175 rfl rfl hq
      have k49 : ¬ x19 = true → wp X (d + 5) f_Mod_isFreed (0, 0) 176 [.ref 312, .int t_, .int (F_Mod_thingAt t_), .int v1, .int (bI v16)] [] (lay M18) Q := by
        intro x50
        replace h := inn h x50
        refine wp_aload_n d_Mod_isFreed_176 rfl rfl ?_
        refine wl_getR d_Mod_isFreed_177 lf_Mod_7 sh_312 rfl ?_
        refine wp_bipush d_Mod_isFreed_180 (v := nI 6) rfl ?_
        refine wp_aload_n d_Mod_isFreed_182 rfl rfl ?_
        refine wl_getR d_Mod_isFreed_183 lf_Mod_7 sh_312 rfl ?_
        refine wp_bipush d_Mod_isFreed_186 (v := nI 6) rfl ?_
        obtain ⟨v52, e51, h⟩ := ob1_some h
        refine wa_ald d_Mod_isFreed_188 sh_313 e51 ?_
        refine wp_iconst d_Mod_isFreed_189 (v := nI 1) rfl ?_
        refine wp_iadd d_Mod_isFreed_190 ?_
        obtain ⟨M54, e53, h⟩ := ob1_some h
        refine wa_ast d_Mod_isFreed_191 sh_313 e53 ?_
        refine wp_aload_n d_Mod_isFreed_192 rfl rfl ?_
        refine wp_iconst d_Mod_isFreed_193 (v := nI 3) rfl ?_
        refine wp_aload_n d_Mod_isFreed_194 rfl rfl ?_
        refine wl_getR d_Mod_isFreed_195 lf_Mod_7 sh_312 rfl ?_
        refine wp_iload_n d_Mod_isFreed_198 rfl rfl ?_
        obtain ⟨v56, e55, h⟩ := ob1_some h
        refine wa_ald d_Mod_isFreed_199 sh_313 e55 ?_
        refine wp_aload_n d_Mod_isFreed_200 rfl rfl ?_
        refine wl_getR d_Mod_isFreed_201 lf_Mod_7 sh_312 rfl ?_
        refine wp_iload_n d_Mod_isFreed_204 rfl rfl ?_
        refine wp_iconst d_Mod_isFreed_205 (v := nI 4) rfl ?_
        refine wp_iadd d_Mod_isFreed_206 ?_
        obtain ⟨v58, e57, h⟩ := ob1_some h
        refine wa_ald d_Mod_isFreed_207 sh_313 e57 ?_
        obtain ⟨M59, e60, h⟩ := ob1_some h
        refine wl_callV3 d_Mod_isFreed_208 lc_Mod_notes lv_Mod_328 rfl sh_312 rfl rfl ⟨rfl, rfl⟩ ⟨by decide, by decide⟩ ?_
        refine s_Mod_notes (d := d + 4) e60 ?_
        refine wp_aload_n d_Mod_isFreed_211 rfl rfl ?_
        refine wp_iload_n d_Mod_isFreed_212 rfl rfl ?_
        obtain ⟨M61, e62, h⟩ := ob1_some h
        refine wl_callV1 d_Mod_isFreed_213 lc_Mod_isGone lv_Mod_348 rfl sh_312 rfl rfl ⟨rfl, rfl⟩ ⟨by decide, by decide⟩ ?_
        refine s_Mod_isGone (d := d + 3) e62 ?_
        refine wp_iconst d_Mod_isFreed_216 (v := bI true) rfl ?_
        cases h
        exact wb_iret d_Mod_isFreed_217 rfl rfl hq
      refine wp_aload_n d_Mod_isFreed_65 rfl rfl ?_
      refine wl_getR d_Mod_isFreed_66 lf_Mod_7 sh_312 rfl ?_
      refine wp_iload_n d_Mod_isFreed_69 rfl rfl ?_
      refine wp_bipush d_Mod_isFreed_70 (v := nI 6) rfl ?_
      refine wp_iadd d_Mod_isFreed_72 ?_
      obtain ⟨v64, e63, e20⟩ := ob1_some e20
      refine wa_ald d_Mod_isFreed_73 sh_313 e63 ?_
      refine wp_iconst d_Mod_isFreed_74 (v := nI 1) rfl ?_
      refine wq_icmp_le 176 d_Mod_isFreed_75 rfl (fun h75 => ?_) (fun h75 => ?_)
      · cases e20
        exact k49 (fun z => h75 (of_decide_eq_true z))
      · cases e20
        exact k23 (decide_eq_true h75)
    · replace h := ip h h60
      refine wp_iconst d_Mod_isFreed_63 (v := bI false) rfl ?_
      cases h
      exact wb_iret d_Mod_isFreed_64 rfl rfl hq
  refine wp_aload_n d_Mod_isFreed_12 rfl rfl ?_
  refine wl_getI d_Mod_isFreed_13 lf_Mod_114 sh_312 rfl rfl ?_
  refine wz_eq 36 d_Mod_isFreed_16 rfl (fun h16 => ?_) (fun h16 => ?_)
  · replace e17 := inn e17 (fun z => z h16)
    obtain ⟨x69, M71, e70, e17⟩ := ob2_some e17
    have k68 : ∀ u4 : Value, wp X (d + 5) f_Mod_isFreed (0, 0) 56 [.ref 312, .int t_, .int (F_Mod_thingAt t_), .int v1, u4] [.int (bI x69)] (lay M71) Q := by
      intro u4
      cases e17
      exact k15 _
    refine wp_iload_n d_Mod_isFreed_36 rfl rfl ?_
    refine wz_le 55 d_Mod_isFreed_37 rfl (fun h37 => ?_) (fun h37 => ?_)
    · replace e70 := inn e70 h37
      cases e70
      refine wp_iconst d_Mod_isFreed_55 (v := nI 0) rfl ?_
      exact wj_b0 (fun z => Bool.noConfusion z) (k68 _)
    · replace e70 := ip e70 h37
      refine wp_aload_n d_Mod_isFreed_40 rfl rfl ?_
      refine wp_sipush d_Mod_isFreed_41 (v := nI 1000) rfl ?_
      obtain ⟨v72, M73, e74, e70⟩ := ob2_some e70
      refine wl_callV1 d_Mod_isFreed_44 lc_Mod_draw lv_Mod_338 rfl sh_312 rfl rfl ⟨rfl, rfl⟩ ⟨by decide, by decide⟩ ?_
      refine s_Mod_draw (d := d + 4) e74 ?_
      refine wp_iload_n d_Mod_isFreed_47 rfl rfl ?_
      refine wq_icmp_ge 55 d_Mod_isFreed_48 rfl (fun h48 => ?_) (fun h48 => ?_)
      · cases e70
        refine wp_iconst d_Mod_isFreed_55 (v := nI 0) rfl ?_
        exact wj_b0 (fun z => h48 (of_decide_eq_true z)) (k68 _)
      · cases e70
        refine wp_iconst d_Mod_isFreed_51 (v := nI 1) rfl ?_
        refine wp_goto 56 d_Mod_isFreed_52 rfl ?_
        exact wj_b1 (decide_eq_true h48) (k68 _)
  · replace e17 := ip e17 h16
    have k75 : ∀ u4 : Value, wp X (d + 5) f_Mod_isFreed (0, 0) 56 [.ref 312, .int t_, .int (F_Mod_thingAt t_), .int v1, u4] [.int (bI (decide (¬ (((nI 2) * v1) < (nI 1000)))))] (lay M2) Q := by
      intro u4
      cases e17
      exact k15 _
    refine wp_iconst d_Mod_isFreed_19 (v := nI 2) rfl ?_
    refine wp_iload_n d_Mod_isFreed_20 rfl rfl ?_
    refine wp_imul d_Mod_isFreed_21 ?_
    refine wp_sipush d_Mod_isFreed_22 (v := nI 1000) rfl ?_
    refine wq_icmp_lt 32 d_Mod_isFreed_25 rfl (fun h25 => ?_) (fun h25 => ?_)
    · refine wp_iconst d_Mod_isFreed_32 (v := nI 0) rfl ?_
      refine wp_goto 56 d_Mod_isFreed_33 rfl ?_
      exact wj_f (fun z => z h25) (k75 _)
    · refine wp_iconst d_Mod_isFreed_28 (v := nI 1) rfl ?_
      refine wp_goto 56 d_Mod_isFreed_29 rfl ?_
      exact wj_t h25 (k75 _)
end S1416
