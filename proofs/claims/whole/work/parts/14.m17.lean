/-! methods as functions: printed by program -/
section S1417
variable {X : mXs} {d z : Nat} {Q : Option Value → mH → Prop}
def L_Mod_fallsOff_1 (z : Nat) (t_ : Int32) (at_ : Int32) (many_ : Int32) (kt : mM → Option (Bool × mM)) : Nat → Int32 → mM → Option (Bool × mM)
  | 0, _, _ => none
  | n + 1, k_, M =>
    if k_ < many_ then
    ob1 (ra M 313 270 (at_ + (nI 4))) fun v5 =>
    if v5 = (nI 59) then
    ob1 (ra M 313 270 (nI 6)) fun v19 =>
    ob1 (wa M 313 270 (nI 6) (v19 + (nI 1))) fun M21 =>
    ob1 (ra M21 313 270 at_) fun v23 =>
    ob1 (F_Mod_notes (nI 4) v23 v5 M21) fun M24 =>
    ob1 (F_Mod_isGone z t_ M24) fun M26 =>
    some (true, M26)
    else
    ob1 (ob1 (F_Mod_isTaken z (v5 + (nI 1)) M) fun v16 =>
    some (v16)) fun x6 =>
    if x6 = true then
    some (false, M)
    else
    ob1 (wa M 313 270 (at_ + (nI 4)) (v5 + (nI 1))) fun M15 =>
    L_Mod_fallsOff_1 z t_ at_ many_ kt n (k_ + nI 1) M15
    else
    kt M
def F_Mod_fallsOff (z : Nat) (t_ : Int32) (M : mM) : Option (Bool × mM) :=
  ob2 (F_Mod_slidesOf z t_ M) fun v1 M2 =>
  L_Mod_fallsOff_1 z t_ (F_Mod_thingAt t_) v1 (fun (M28 : mM) =>
  some (false, M28)) z (nI 0) M2
theorem l_Mod_fallsOff_1 {t_ : Int32} {at_ : Int32} {many_ : Int32} {kt : mM → Option (Bool × mM)}  {r : Bool} {M' : mM} (hq : Q (some (.int (bI r))) (lay M')) (K : ∀ (N1 : mM) (u4 u5 : Value), kt  N1 = some (r, M') → wp X (d + 5) f_Mod_fallsOff (0, 0) 105 [.ref 312, .int t_, .int at_, .int many_, u4, u5] [] (lay N1) Q) : ∀ (n : Nat) (k_ : Int32) (M : mM) (u5 : Value), L_Mod_fallsOff_1 z t_ at_ many_ kt n k_ M = some (r, M') → wp X (d + 5) f_Mod_fallsOff (0, 0) 15 [.ref 312, .int t_, .int at_, .int many_, .int k_, u5] [] (lay M) Q := by
  intro n
  induction n with
  | zero => intro k_ M u5 h; exact nn h
  | succ n ih =>
    intro k_ M u5 h
    refine wp_iload d_Mod_fallsOff_15 rfl ?_
    refine wp_iload_n d_Mod_fallsOff_17 rfl rfl ?_
    refine wq_icmp_ge 105 d_Mod_fallsOff_18 rfl (fun h18 => ?_) (fun h18 => ?_)
    · replace h := inn h h18
      exact K _ _ _ h
    · replace h := ip h h18
      refine wp_aload_n d_Mod_fallsOff_21 rfl rfl ?_
      refine wl_getR d_Mod_fallsOff_22 lf_Mod_7 sh_312 rfl ?_
      refine wp_iload_n d_Mod_fallsOff_25 rfl rfl ?_
      refine wp_iconst d_Mod_fallsOff_26 (v := nI 4) rfl ?_
      refine wp_iadd d_Mod_fallsOff_27 ?_
      obtain ⟨v5, e4, h⟩ := ob1_some h
      refine wa_ald d_Mod_fallsOff_28 sh_313 e4 ?_
      refine wp_istore d_Mod_fallsOff_29 (by decide) ?_
      refine wp_iload d_Mod_fallsOff_31 rfl ?_
      refine wp_bipush d_Mod_fallsOff_33 (v := nI 59) rfl ?_
      refine wq_icmp_ne 74 d_Mod_fallsOff_35 rfl (fun h35 => ?_) (fun h35 => ?_)
      · replace h := inn h h35
        obtain ⟨x6, e7, h⟩ := ob1_some h
        have k10 : x6 = true → wp X (d + 5) f_Mod_fallsOff (0, 0) 85 [.ref 312, .int t_, .int at_, .int many_, .int k_, .int v5] [] (lay M) Q := by
          intro x11
          replace h := ip h x11
          refine wp_iconst d_Mod_fallsOff_85 (v := bI false) rfl ?_
          cases h
          exact wb_iret d_Mod_fallsOff_86 rfl rfl hq
        have k12 : ¬ x6 = true → wp X (d + 5) f_Mod_fallsOff (0, 0) 87 [.ref 312, .int t_, .int at_, .int many_, .int k_, .int v5] [] (lay M) Q := by
          intro x13
          replace h := inn h x13
          refine wp_aload_n d_Mod_fallsOff_87 rfl rfl ?_
          refine wl_getR d_Mod_fallsOff_88 lf_Mod_7 sh_312 rfl ?_
          refine wp_iload_n d_Mod_fallsOff_91 rfl rfl ?_
          refine wp_iconst d_Mod_fallsOff_92 (v := nI 4) rfl ?_
          refine wp_iadd d_Mod_fallsOff_93 ?_
          refine wp_iload d_Mod_fallsOff_94 rfl ?_
          refine wp_iconst d_Mod_fallsOff_96 (v := nI 1) rfl ?_
          refine wp_iadd d_Mod_fallsOff_97 ?_
          obtain ⟨M15, e14, h⟩ := ob1_some h
          refine wa_ast d_Mod_fallsOff_98 sh_313 e14 ?_
          refine wp_iinc d_Mod_fallsOff_99 (v := k_ + nI 1) rfl rfl ?_
          refine wp_goto 15 d_Mod_fallsOff_102 rfl ?_
          exact ih _ _ _ h
        refine wp_aload_n d_Mod_fallsOff_74 rfl rfl ?_
        refine wp_iload d_Mod_fallsOff_75 rfl ?_
        refine wp_iconst d_Mod_fallsOff_77 (v := nI 1) rfl ?_
        refine wp_iadd d_Mod_fallsOff_78 ?_
        obtain ⟨v16, e17, e7⟩ := ob1_some e7
        refine wl_callV1 d_Mod_fallsOff_79 lc_Mod_isTaken lv_Mod_332 rfl sh_312 rfl rfl ⟨rfl, rfl⟩ ⟨by decide, by decide⟩ ?_
        refine s_Mod_isTaken (d := d + 2) e17 ?_
        refine wc_eq 87 d_Mod_fallsOff_82 rfl (fun h82 => ?_) (fun h82 => ?_)
        · cases e7
          exact k12 h82
        · cases e7
          exact k10 h82
      · replace h := ip h h35
        refine wp_aload_n d_Mod_fallsOff_38 rfl rfl ?_
        refine wl_getR d_Mod_fallsOff_39 lf_Mod_7 sh_312 rfl ?_
        refine wp_bipush d_Mod_fallsOff_42 (v := nI 6) rfl ?_
        refine wp_aload_n d_Mod_fallsOff_44 rfl rfl ?_
        refine wl_getR d_Mod_fallsOff_45 lf_Mod_7 sh_312 rfl ?_
        refine wp_bipush d_Mod_fallsOff_48 (v := nI 6) rfl ?_
        obtain ⟨v19, e18, h⟩ := ob1_some h
        refine wa_ald d_Mod_fallsOff_50 sh_313 e18 ?_
        refine wp_iconst d_Mod_fallsOff_51 (v := nI 1) rfl ?_
        refine wp_iadd d_Mod_fallsOff_52 ?_
        obtain ⟨M21, e20, h⟩ := ob1_some h
        refine wa_ast d_Mod_fallsOff_53 sh_313 e20 ?_
        refine wp_aload_n d_Mod_fallsOff_54 rfl rfl ?_
        refine wp_iconst d_Mod_fallsOff_55 (v := nI 4) rfl ?_
        refine wp_aload_n d_Mod_fallsOff_56 rfl rfl ?_
        refine wl_getR d_Mod_fallsOff_57 lf_Mod_7 sh_312 rfl ?_
        refine wp_iload_n d_Mod_fallsOff_60 rfl rfl ?_
        obtain ⟨v23, e22, h⟩ := ob1_some h
        refine wa_ald d_Mod_fallsOff_61 sh_313 e22 ?_
        refine wp_iload d_Mod_fallsOff_62 rfl ?_
        obtain ⟨M24, e25, h⟩ := ob1_some h
        refine wl_callV3 d_Mod_fallsOff_64 lc_Mod_notes lv_Mod_328 rfl sh_312 rfl rfl ⟨rfl, rfl⟩ ⟨by decide, by decide⟩ ?_
        refine s_Mod_notes (d := d + 4) e25 ?_
        refine wp_aload_n d_Mod_fallsOff_67 rfl rfl ?_
        refine wp_iload_n d_Mod_fallsOff_68 rfl rfl ?_
        obtain ⟨M26, e27, h⟩ := ob1_some h
        refine wl_callV1 d_Mod_fallsOff_69 lc_Mod_isGone lv_Mod_348 rfl sh_312 rfl rfl ⟨rfl, rfl⟩ ⟨by decide, by decide⟩ ?_
        refine s_Mod_isGone (d := d + 3) e27 ?_
        refine wp_iconst d_Mod_fallsOff_72 (v := bI true) rfl ?_
        cases h
        exact wb_iret d_Mod_fallsOff_73 rfl rfl hq
theorem s_Mod_fallsOff {t_ : Int32} {M : mM} {r : Bool} {M' : mM} (h : F_Mod_fallsOff z t_ M = some (r, M')) (hq : Q (some (.int (bI r))) (lay M')) : Sp X (d + 5) f_Mod_fallsOff [.ref 312, .int t_] (lay M) Q := by
  refine Sp_of (by decide) rfl (Nat.le_of_ble_eq_true rfl) ?_
  refine wp_aload_n d_Mod_fallsOff_0 rfl rfl ?_
  refine wp_iload_n d_Mod_fallsOff_1 rfl rfl ?_
  refine wl_callV1 d_Mod_fallsOff_2 lc_Mod_thingAt lv_Mod_124 rfl sh_312 rfl rfl ⟨rfl, rfl⟩ ⟨by decide, by decide⟩ ?_
  refine s_Mod_thingAt (d := d + 4) rfl ?_
  refine wp_istore_n d_Mod_fallsOff_5 rfl (by decide) ?_
  refine wp_aload_n d_Mod_fallsOff_6 rfl rfl ?_
  refine wp_iload_n d_Mod_fallsOff_7 rfl rfl ?_
  obtain ⟨v1, M2, e3, h⟩ := ob2_some h
  refine wl_callV1 d_Mod_fallsOff_8 lc_Mod_slidesOf lv_Mod_357 rfl sh_312 rfl rfl ⟨rfl, rfl⟩ ⟨by decide, by decide⟩ ?_
  refine s_Mod_slidesOf (d := d) e3 ?_
  refine wp_istore_n d_Mod_fallsOff_11 rfl (by decide) ?_
  refine wp_iconst d_Mod_fallsOff_12 (v := nI 0) rfl ?_
  refine wp_istore d_Mod_fallsOff_13 (by decide) ?_
  refine l_Mod_fallsOff_1 hq ?_ _ _ _ _ h
  intro M28 u4 u5 h
  refine wp_iconst d_Mod_fallsOff_105 (v := bI false) rfl ?_
  cases h
  exact wb_iret d_Mod_fallsOff_106 rfl rfl hq
def L_Mod_evening_1 (z : Nat) : Nat → Int32 → mM → Option (mM)
  | 0, _, _ => none
  | n + 1, t_, M =>
    ob1 (ob1 (ra M 313 270 (nI 8)) fun v18 =>
    some (decide (t_ < v18))) fun x3 =>
    if x3 = true then
    ob1 (ra M 313 270 ((F_Mod_thingAt t_) + (nI 5))) fun v10 =>
    ob1 (some (F_Mod_lesser (nI 999) (v10 + (nI 1)))) fun v11 =>
    ob1 (wa M 313 270 ((F_Mod_thingAt t_) + (nI 5)) v11) fun M14 =>
    L_Mod_evening_1 z n (t_ + nI 1) M14
    else
    some (M)
def L_Mod_evening_2 (z : Nat) : Nat → Int32 → mM → Option (mM)
  | 0, _, _ => none
  | n + 1, i_, M =>
    ob1 (if i_ < (nI 60) then ob1 (ra M 313 270 (nI 4)) fun v70 =>
    some (decide ((nI 4) < v70))
    else some (false)) fun x22 =>
    if x22 = true then
    ob1 (ob1 (ob1 (ob1 (F_Mod_isTaken z i_ M) fun v65 =>
    some (v65)) fun x63 => some (!x63)) fun x49 =>
    if x49 = true then
    ob1 (F_Mod_glue i_ M) fun v57 =>
    ob1 (F_Mod_hasGlue i_ (v57 - (nI 1)) M) fun M59 =>
    some (M59)
    else
    some (M)) fun M47 =>
    L_Mod_evening_2 z n (i_ + nI 1) M47
    else
    some (M)
def F_Mod_evening (z : Nat) (M : mM) : Option mM :=
  ob1 (L_Mod_evening_1 z z (nI 0) M) fun M19 =>
  ob1 (L_Mod_evening_2 z z (nI 0) M19) fun M71 =>
  ob1 (ra M71 313 270 (nI 0)) fun v73 =>
  ob1 (wa M71 313 270 (nI 0) (v73 + (nI 1))) fun M75 =>
  some M75
theorem l_Mod_evening_1  {N' : mM} (K : ∀ u1 : Value, wp X (d + 3) f_Mod_evening (0, 0) 52 [.ref 312, u1] [] (lay N') Q) : ∀ (n : Nat) (t_ : Int32) (M : mM), L_Mod_evening_1 z n t_ M = some (N') → wp X (d + 3) f_Mod_evening (0, 0) 2 [.ref 312, .int t_] [] (lay M) Q := by
  intro n
  induction n with
  | zero => intro t_ M h; exact nn h
  | succ n ih =>
    intro t_ M h
    obtain ⟨x3, e4, h⟩ := ob1_some h
    have k7 : x3 = true → wp X (d + 3) f_Mod_evening (0, 0) 13 [.ref 312, .int t_] [] (lay M) Q := by
      intro x8
      replace h := ip h x8
      refine wp_aload_n d_Mod_evening_13 rfl rfl ?_
      refine wl_getR d_Mod_evening_14 lf_Mod_7 sh_312 rfl ?_
      refine wp_aload_n d_Mod_evening_17 rfl rfl ?_
      refine wp_iload_n d_Mod_evening_18 rfl rfl ?_
      refine wl_callV1 d_Mod_evening_19 lc_Mod_thingAt lv_Mod_124 rfl sh_312 rfl rfl ⟨rfl, rfl⟩ ⟨by decide, by decide⟩ ?_
      refine s_Mod_thingAt (d := d + 2) rfl ?_
      refine wp_iconst d_Mod_evening_22 (v := nI 5) rfl ?_
      refine wp_iadd d_Mod_evening_23 ?_
      refine wp_aload_n d_Mod_evening_24 rfl rfl ?_
      refine wp_sipush d_Mod_evening_25 (v := nI 999) rfl ?_
      refine wp_aload_n d_Mod_evening_28 rfl rfl ?_
      refine wl_getR d_Mod_evening_29 lf_Mod_7 sh_312 rfl ?_
      refine wp_aload_n d_Mod_evening_32 rfl rfl ?_
      refine wp_iload_n d_Mod_evening_33 rfl rfl ?_
      refine wl_callV1 d_Mod_evening_34 lc_Mod_thingAt lv_Mod_124 rfl sh_312 rfl rfl ⟨rfl, rfl⟩ ⟨by decide, by decide⟩ ?_
      refine s_Mod_thingAt (d := d + 2) rfl ?_
      refine wp_iconst d_Mod_evening_37 (v := nI 5) rfl ?_
      refine wp_iadd d_Mod_evening_38 ?_
      obtain ⟨v10, e9, h⟩ := ob1_some h
      refine wa_ald d_Mod_evening_39 sh_313 e9 ?_
      refine wp_iconst d_Mod_evening_40 (v := nI 1) rfl ?_
      refine wp_iadd d_Mod_evening_41 ?_
      refine wl_callV2 d_Mod_evening_42 lc_Mod_lesser lv_Mod_360 rfl sh_312 rfl rfl ⟨rfl, rfl⟩ ⟨by decide, by decide⟩ ?_
      refine s_Mod_lesser (d := d + 2) rfl ?_
      obtain ⟨v11, e12, h⟩ := ob1_some h
      refine wx_int e12 ?_
      obtain ⟨M14, e13, h⟩ := ob1_some h
      refine wa_ast d_Mod_evening_45 sh_313 e13 ?_
      refine wp_iinc d_Mod_evening_46 (v := t_ + nI 1) rfl rfl ?_
      refine wp_goto 2 d_Mod_evening_49 rfl ?_
      exact ih _ _ h
    have k15 : ¬ x3 = true → wp X (d + 3) f_Mod_evening (0, 0) 52 [.ref 312, .int t_] [] (lay M) Q := by
      intro x16
      replace h := inn h x16
      cases h
      exact K _
    refine wp_iload_n d_Mod_evening_2 rfl rfl ?_
    refine wp_aload_n d_Mod_evening_3 rfl rfl ?_
    refine wl_getR d_Mod_evening_4 lf_Mod_7 sh_312 rfl ?_
    refine wp_bipush d_Mod_evening_7 (v := nI 8) rfl ?_
    obtain ⟨v18, e17, e4⟩ := ob1_some e4
    refine wa_ald d_Mod_evening_9 sh_313 e17 ?_
    refine wq_icmp_ge 52 d_Mod_evening_10 rfl (fun h10 => ?_) (fun h10 => ?_)
    · cases e4
      exact k15 (fun z => h10 (of_decide_eq_true z))
    · cases e4
      exact k7 (decide_eq_true h10)
theorem l_Mod_evening_2  {N' : mM} (K : ∀ u1 : Value, wp X (d + 3) f_Mod_evening (0, 0) 96 [.ref 312, u1] [] (lay N') Q) : ∀ (n : Nat) (i_ : Int32) (M : mM), L_Mod_evening_2 z n i_ M = some (N') → wp X (d + 3) f_Mod_evening (0, 0) 54 [.ref 312, .int i_] [] (lay M) Q := by
  intro n
  induction n with
  | zero => intro i_ M h; exact nn h
  | succ n ih =>
    intro i_ M h
    obtain ⟨x22, e23, h⟩ := ob1_some h
    have k26 : x22 = true → wp X (d + 3) f_Mod_evening (0, 0) 70 [.ref 312, .int i_] [] (lay M) Q := by
      intro x27
      replace h := ip h x27
      obtain ⟨M47, e48, h⟩ := ob1_some h
      have k46 : wp X (d + 3) f_Mod_evening (0, 0) 90 [.ref 312, .int i_] [] (lay M47) Q := by
        refine wp_iinc d_Mod_evening_90 (v := i_ + nI 1) rfl rfl ?_
        refine wp_goto 54 d_Mod_evening_93 rfl ?_
        exact ih _ _ h
      obtain ⟨x49, e50, e48⟩ := ob1_some e48
      have k55 : x49 = true → wp X (d + 3) f_Mod_evening (0, 0) 78 [.ref 312, .int i_] [] (lay M) Q := by
        intro x56
        replace e48 := ip e48 x56
        refine wp_aload_n d_Mod_evening_78 rfl rfl ?_
        refine wp_iload_n d_Mod_evening_79 rfl rfl ?_
        refine wp_aload_n d_Mod_evening_80 rfl rfl ?_
        refine wp_iload_n d_Mod_evening_81 rfl rfl ?_
        obtain ⟨v57, e58, e48⟩ := ob1_some e48
        refine wl_callV1 d_Mod_evening_82 lc_Mod_glue lv_Mod_309 rfl sh_312 rfl rfl ⟨rfl, rfl⟩ ⟨by decide, by decide⟩ ?_
        refine s_Mod_glue (d := d + 2) e58 ?_
        refine wp_iconst d_Mod_evening_85 (v := nI 1) rfl ?_
        refine wp_isub d_Mod_evening_86 ?_
        obtain ⟨M59, e60, e48⟩ := ob1_some e48
        refine wl_callV2 d_Mod_evening_87 lc_Mod_hasGlue lv_Mod_145 rfl sh_312 rfl rfl ⟨rfl, rfl⟩ ⟨by decide, by decide⟩ ?_
        refine s_Mod_hasGlue (d := d + 1) e60 ?_
        cases e48
        exact k46
      have k61 : ¬ x49 = true → wp X (d + 3) f_Mod_evening (0, 0) 90 [.ref 312, .int i_] [] (lay M) Q := by
        intro x62
        replace e48 := inn e48 x62
        cases e48
        exact k46
      obtain ⟨x63, e64, e50⟩ := ob1_some e50
      cases e50
      refine wp_aload_n d_Mod_evening_70 rfl rfl ?_
      refine wp_iload_n d_Mod_evening_71 rfl rfl ?_
      obtain ⟨v65, e66, e64⟩ := ob1_some e64
      refine wl_callV1 d_Mod_evening_72 lc_Mod_isTaken lv_Mod_332 rfl sh_312 rfl rfl ⟨rfl, rfl⟩ ⟨by decide, by decide⟩ ?_
      refine s_Mod_isTaken (d := d) e66 ?_
      refine wc_ne 90 d_Mod_evening_75 rfl (fun h75 => ?_) (fun h75 => ?_)
      · cases e64
        exact k61 (nb_t h75)
      · cases e64
        exact k55 (nb_f h75)
    have k67 : ¬ x22 = true → wp X (d + 3) f_Mod_evening (0, 0) 96 [.ref 312, .int i_] [] (lay M) Q := by
      intro x68
      replace h := inn h x68
      cases h
      exact K _
    refine wp_iload_n d_Mod_evening_54 rfl rfl ?_
    refine wp_bipush d_Mod_evening_55 (v := nI 60) rfl ?_
    refine wq_icmp_ge 96 d_Mod_evening_57 rfl (fun h57 => ?_) (fun h57 => ?_)
    · replace e23 := inn e23 h57
      cases e23
      exact k67 (fun z => Bool.noConfusion z)
    · replace e23 := ip e23 h57
      refine wp_aload_n d_Mod_evening_60 rfl rfl ?_
      refine wl_getR d_Mod_evening_61 lf_Mod_7 sh_312 rfl ?_
      refine wp_iconst d_Mod_evening_64 (v := nI 4) rfl ?_
      obtain ⟨v70, e69, e23⟩ := ob1_some e23
      refine wa_ald d_Mod_evening_65 sh_313 e69 ?_
      refine wp_iconst d_Mod_evening_66 (v := nI 4) rfl ?_
      refine wq_icmp_le 96 d_Mod_evening_67 rfl (fun h67 => ?_) (fun h67 => ?_)
      · cases e23
        exact k67 (fun z => h67 (of_decide_eq_true z))
      · cases e23
        exact k26 (decide_eq_true h67)
theorem s_Mod_evening {M : mM} {M' : mM} (h : F_Mod_evening z M = some M') (hq : Q none (lay M')) : Sp X (d + 3) f_Mod_evening [.ref 312] (lay M) Q := by
  refine Sp_of (by decide) rfl (Nat.le_of_ble_eq_true rfl) ?_
  refine wp_iconst d_Mod_evening_0 (v := nI 0) rfl ?_
  refine wp_istore_n d_Mod_evening_1 rfl (by decide) ?_
  obtain ⟨M19, e77, h⟩ := ob1_some h
  refine l_Mod_evening_1 ?_ _ _ _ e77
  intro u1
  refine wp_iconst d_Mod_evening_52 (v := nI 0) rfl ?_
  refine wp_istore_n d_Mod_evening_53 rfl (by decide) ?_
  obtain ⟨M71, e76, h⟩ := ob1_some h
  refine l_Mod_evening_2 ?_ _ _ _ e76
  intro u1
  refine wp_aload_n d_Mod_evening_96 rfl rfl ?_
  refine wl_getR d_Mod_evening_97 lf_Mod_7 sh_312 rfl ?_
  refine wp_iconst d_Mod_evening_100 (v := nI 0) rfl ?_
  refine wp_aload_n d_Mod_evening_101 rfl rfl ?_
  refine wl_getR d_Mod_evening_102 lf_Mod_7 sh_312 rfl ?_
  refine wp_iconst d_Mod_evening_105 (v := nI 0) rfl ?_
  obtain ⟨v73, e72, h⟩ := ob1_some h
  refine wa_ald d_Mod_evening_106 sh_313 e72 ?_
  refine wp_iconst d_Mod_evening_107 (v := nI 1) rfl ?_
  refine wp_iadd d_Mod_evening_108 ?_
  obtain ⟨M75, e74, h⟩ := ob1_some h
  refine wa_ast d_Mod_evening_109 sh_313 e74 ?_
  cases h
  exact wp_ret d_Mod_evening_110 rfl rfl hq
def L_Mod_goesBy_1 (z : Nat) : Nat → Int32 → mM → Option (mM)
  | 0, _, _ => none
  | n + 1, k_, M =>
    if k_ < ((nI 4) * (M 312 32)) then
    ob1 (ob1 (ob1 (ra M 328 128 k_) fun v33 =>
    ob1 (ra M 313 270 (nI 0)) fun v35 =>
    some (decide (v33 = v35))) fun x20 =>
    if x20 = true then
    ob1 (F_Mod_does z k_ M) fun M28 =>
    some (M28)
    else
    some (M)) fun M18 =>
    L_Mod_goesBy_1 z n (k_ + (nI 4)) M18
    else
    some (M)
def L_Mod_goesBy_2 (z : Nat) : Nat → Int32 → mM → Option (mM)
  | 0, _, _ => none
  | n + 1, k_, M =>
    if k_ < ((nI 5) * (M 312 30)) then
    ob1 (ob1 (ob1 (ra M 327 160 k_) fun v85 =>
    ob1 (ra M 313 270 (nI 0)) fun v87 =>
    some (decide (v85 = v87))) fun x64 =>
    if x64 = true then
    ob1 (ra M 327 160 (k_ + (nI 1))) fun v73 =>
    ob1 (ra M 327 160 (k_ + (nI 2))) fun v75 =>
    ob1 (ra M 327 160 (k_ + (nI 3))) fun v77 =>
    ob1 (ra M 327 160 (k_ + (nI 4))) fun v79 =>
    ob1 (F_Mod_comesUp z v73 v75 v77 v79 M) fun M80 =>
    some (M80)
    else
    some (M)) fun M62 =>
    L_Mod_goesBy_2 z n (k_ + (nI 5)) M62
    else
    some (M)
def L_Mod_goesBy_3 (z : Nat) : Nat → Int32 → Int32 → mM → Option (Int32 × Int32 × mM)
  | 0, _, _, _ => none
  | n + 1, n_, t_, M =>
    ob1 (ob1 (ra M 313 270 (nI 8)) fun v113 =>
    some (decide (t_ < v113))) fun x91 =>
    if x91 = true then
    ob2 (ob2 (F_Mod_isFreed z t_ M) fun v107 M108 =>
    some (v107, M108)) fun x97 M99 =>
    if x97 = true then
    L_Mod_goesBy_3 z n (n_ + (nI 1)) t_ M99
    else
    L_Mod_goesBy_3 z n n_ (t_ + (nI 1)) M99
    else
    some (n_, t_, M)
def L_Mod_goesBy_4 (z : Nat) : Nat → Int32 → Int32 → mM → Option (Int32 × mM)
  | 0, _, _, _ => none
  | n + 1, n_, i_, M =>
    if ¬ (i_ < (nI 0)) then
    ob2 (ob2 (ob1 (ob1 (F_Mod_isTaken z i_ M) fun v193 =>
    some (v193)) fun x180 =>
    if x180 = true then ob1 (F_Mod_stuckAt z i_ M) fun v186 =>
    ob2 (F_Mod_fallsOff z v186 M) fun v188 M189 =>
    some (v188, M189)
    else some (false, M)) fun x158 M160 =>
    if x158 = true then
    some (n_ + (nI 1), M160)
    else
    some (n_, M160)) fun n_155 M156 =>
    L_Mod_goesBy_4 z n n_155 (i_ + (-1)) M156
    else
    some (n_, M)
def F_Mod_goesBy (z : Nat) (M : mM) : Option (Int32 × mM) :=
  ob1 (L_Mod_goesBy_1 z z (nI 0) M) fun M36 =>
  ob1 (L_Mod_goesBy_2 z z (nI 0) M36) fun M88 =>
  ob3 (L_Mod_goesBy_3 z z (nI 0) (nI 0) M88) fun n_114 t_115 M116 =>
  ob2 (L_Mod_goesBy_4 z z n_114 (nI 59) M116) fun n_195 M196 =>
  ob1 (F_Mod_evening z M196) fun M197 =>
  some (n_195, M197)
theorem l_Mod_goesBy_1  {N' : mM} (K : ∀ u1 u2 u3 : Value, wp X (d + 6) f_Mod_goesBy (0, 0) 39 [.ref 312, u1, u2, u3] [] (lay N') Q) : ∀ (n : Nat) (k_ : Int32) (M : mM) (u2 u3 : Value), L_Mod_goesBy_1 z n k_ M = some (N') → wp X (d + 6) f_Mod_goesBy (0, 0) 2 [.ref 312, .int k_, u2, u3] [] (lay M) Q := by
  intro n
  induction n with
  | zero => intro k_ M u2 u3 h; exact nn h
  | succ n ih =>
    intro k_ M u2 u3 h
    refine wp_iload_n d_Mod_goesBy_2 rfl rfl ?_
    refine wp_iconst d_Mod_goesBy_3 (v := nI 4) rfl ?_
    refine wp_aload_n d_Mod_goesBy_4 rfl rfl ?_
    refine wl_getI d_Mod_goesBy_5 lf_Mod_285 sh_312 rfl rfl ?_
    refine wp_imul d_Mod_goesBy_8 ?_
    refine wq_icmp_ge 39 d_Mod_goesBy_9 rfl (fun h9 => ?_) (fun h9 => ?_)
    · replace h := inn h h9
      cases h
      exact K _ _ _
    · replace h := ip h h9
      obtain ⟨M18, e19, h⟩ := ob1_some h
      have k17 : ∀ u2 u3 : Value, wp X (d + 6) f_Mod_goesBy (0, 0) 32 [.ref 312, .int k_, u2, u3] [] (lay M18) Q := by
        intro u2 u3
        refine wp_iload_n d_Mod_goesBy_32 rfl rfl ?_
        refine wp_iconst d_Mod_goesBy_33 (v := nI 4) rfl ?_
        refine wp_iadd d_Mod_goesBy_34 ?_
        refine wp_istore_n d_Mod_goesBy_35 rfl (by decide) ?_
        refine wp_goto 2 d_Mod_goesBy_36 rfl ?_
        exact ih _ _ _ _ h
      obtain ⟨x20, e21, e19⟩ := ob1_some e19
      have k26 : ∀ u2 u3 : Value, x20 = true → wp X (d + 6) f_Mod_goesBy (0, 0) 27 [.ref 312, .int k_, u2, u3] [] (lay M) Q := by
        intro u2 u3 x27
        replace e19 := ip e19 x27
        refine wp_aload_n d_Mod_goesBy_27 rfl rfl ?_
        refine wp_iload_n d_Mod_goesBy_28 rfl rfl ?_
        obtain ⟨M28, e29, e19⟩ := ob1_some e19
        refine wl_callV1 d_Mod_goesBy_29 lc_Mod_does lv_Mod_363 rfl sh_312 rfl rfl ⟨rfl, rfl⟩ ⟨by decide, by decide⟩ ?_
        refine s_Mod_does (d := d + 3) e29 ?_
        cases e19
        exact k17 _ _
      have k30 : ∀ u2 u3 : Value, ¬ x20 = true → wp X (d + 6) f_Mod_goesBy (0, 0) 32 [.ref 312, .int k_, u2, u3] [] (lay M) Q := by
        intro u2 u3 x31
        replace e19 := inn e19 x31
        cases e19
        exact k17 _ _
      refine wp_aload_n d_Mod_goesBy_12 rfl rfl ?_
      refine wl_getR d_Mod_goesBy_13 lf_Mod_59 sh_312 rfl ?_
      refine wp_iload_n d_Mod_goesBy_16 rfl rfl ?_
      obtain ⟨v33, e32, e21⟩ := ob1_some e21
      refine wa_ald d_Mod_goesBy_17 sh_328 e32 ?_
      refine wp_aload_n d_Mod_goesBy_18 rfl rfl ?_
      refine wl_getR d_Mod_goesBy_19 lf_Mod_7 sh_312 rfl ?_
      refine wp_iconst d_Mod_goesBy_22 (v := nI 0) rfl ?_
      obtain ⟨v35, e34, e21⟩ := ob1_some e21
      refine wa_ald d_Mod_goesBy_23 sh_313 e34 ?_
      refine wq_icmp_ne 32 d_Mod_goesBy_24 rfl (fun h24 => ?_) (fun h24 => ?_)
      · cases e21
        exact k30 _ _ (fun z => h24 (of_decide_eq_true z))
      · cases e21
        exact k26 _ _ (decide_eq_true h24)
theorem l_Mod_goesBy_2  {N' : mM} (K : ∀ u1 u2 u3 : Value, wp X (d + 6) f_Mod_goesBy (0, 0) 109 [.ref 312, u1, u2, u3] [] (lay N') Q) : ∀ (n : Nat) (k_ : Int32) (M : mM) (u2 u3 : Value), L_Mod_goesBy_2 z n k_ M = some (N') → wp X (d + 6) f_Mod_goesBy (0, 0) 41 [.ref 312, .int k_, u2, u3] [] (lay M) Q := by
  intro n
  induction n with
  | zero => intro k_ M u2 u3 h; exact nn h
  | succ n ih =>
    intro k_ M u2 u3 h
    refine wp_iload_n d_Mod_goesBy_41 rfl rfl ?_
    refine wp_iconst d_Mod_goesBy_42 (v := nI 5) rfl ?_
    refine wp_aload_n d_Mod_goesBy_43 rfl rfl ?_
    refine wl_getI d_Mod_goesBy_44 lf_Mod_282 sh_312 rfl rfl ?_
    refine wp_imul d_Mod_goesBy_47 ?_
    refine wq_icmp_ge 109 d_Mod_goesBy_48 rfl (fun h48 => ?_) (fun h48 => ?_)
    · replace h := inn h h48
      cases h
      exact K _ _ _
    · replace h := ip h h48
      obtain ⟨M62, e63, h⟩ := ob1_some h
      have k61 : ∀ u2 u3 : Value, wp X (d + 6) f_Mod_goesBy (0, 0) 102 [.ref 312, .int k_, u2, u3] [] (lay M62) Q := by
        intro u2 u3
        refine wp_iload_n d_Mod_goesBy_102 rfl rfl ?_
        refine wp_iconst d_Mod_goesBy_103 (v := nI 5) rfl ?_
        refine wp_iadd d_Mod_goesBy_104 ?_
        refine wp_istore_n d_Mod_goesBy_105 rfl (by decide) ?_
        refine wp_goto 41 d_Mod_goesBy_106 rfl ?_
        exact ih _ _ _ _ h
      obtain ⟨x64, e65, e63⟩ := ob1_some e63
      have k70 : ∀ u2 u3 : Value, x64 = true → wp X (d + 6) f_Mod_goesBy (0, 0) 66 [.ref 312, .int k_, u2, u3] [] (lay M) Q := by
        intro u2 u3 x71
        replace e63 := ip e63 x71
        refine wp_aload_n d_Mod_goesBy_66 rfl rfl ?_
        refine wp_aload_n d_Mod_goesBy_67 rfl rfl ?_
        refine wl_getR d_Mod_goesBy_68 lf_Mod_56 sh_312 rfl ?_
        refine wp_iload_n d_Mod_goesBy_71 rfl rfl ?_
        refine wp_iconst d_Mod_goesBy_72 (v := nI 1) rfl ?_
        refine wp_iadd d_Mod_goesBy_73 ?_
        obtain ⟨v73, e72, e63⟩ := ob1_some e63
        refine wa_ald d_Mod_goesBy_74 sh_327 e72 ?_
        refine wp_aload_n d_Mod_goesBy_75 rfl rfl ?_
        refine wl_getR d_Mod_goesBy_76 lf_Mod_56 sh_312 rfl ?_
        refine wp_iload_n d_Mod_goesBy_79 rfl rfl ?_
        refine wp_iconst d_Mod_goesBy_80 (v := nI 2) rfl ?_
        refine wp_iadd d_Mod_goesBy_81 ?_
        obtain ⟨v75, e74, e63⟩ := ob1_some e63
        refine wa_ald d_Mod_goesBy_82 sh_327 e74 ?_
        refine wp_aload_n d_Mod_goesBy_83 rfl rfl ?_
        refine wl_getR d_Mod_goesBy_84 lf_Mod_56 sh_312 rfl ?_
        refine wp_iload_n d_Mod_goesBy_87 rfl rfl ?_
        refine wp_iconst d_Mod_goesBy_88 (v := nI 3) rfl ?_
        refine wp_iadd d_Mod_goesBy_89 ?_
        obtain ⟨v77, e76, e63⟩ := ob1_some e63
        refine wa_ald d_Mod_goesBy_90 sh_327 e76 ?_
        refine wp_aload_n d_Mod_goesBy_91 rfl rfl ?_
        refine wl_getR d_Mod_goesBy_92 lf_Mod_56 sh_312 rfl ?_
        refine wp_iload_n d_Mod_goesBy_95 rfl rfl ?_
        refine wp_iconst d_Mod_goesBy_96 (v := nI 4) rfl ?_
        refine wp_iadd d_Mod_goesBy_97 ?_
        obtain ⟨v79, e78, e63⟩ := ob1_some e63
        refine wa_ald d_Mod_goesBy_98 sh_327 e78 ?_
        obtain ⟨M80, e81, e63⟩ := ob1_some e63
        refine wl_callV4 d_Mod_goesBy_99 lc_Mod_comesUp lv_Mod_366 rfl sh_312 rfl rfl ⟨rfl, rfl⟩ ⟨by decide, by decide⟩ ?_
        refine s_Mod_comesUp (d := d) e81 ?_
        cases e63
        exact k61 _ _
      have k82 : ∀ u2 u3 : Value, ¬ x64 = true → wp X (d + 6) f_Mod_goesBy (0, 0) 102 [.ref 312, .int k_, u2, u3] [] (lay M) Q := by
        intro u2 u3 x83
        replace e63 := inn e63 x83
        cases e63
        exact k61 _ _
      refine wp_aload_n d_Mod_goesBy_51 rfl rfl ?_
      refine wl_getR d_Mod_goesBy_52 lf_Mod_56 sh_312 rfl ?_
      refine wp_iload_n d_Mod_goesBy_55 rfl rfl ?_
      obtain ⟨v85, e84, e65⟩ := ob1_some e65
      refine wa_ald d_Mod_goesBy_56 sh_327 e84 ?_
      refine wp_aload_n d_Mod_goesBy_57 rfl rfl ?_
      refine wl_getR d_Mod_goesBy_58 lf_Mod_7 sh_312 rfl ?_
      refine wp_iconst d_Mod_goesBy_61 (v := nI 0) rfl ?_
      obtain ⟨v87, e86, e65⟩ := ob1_some e65
      refine wa_ald d_Mod_goesBy_62 sh_313 e86 ?_
      refine wq_icmp_ne 102 d_Mod_goesBy_63 rfl (fun h63 => ?_) (fun h63 => ?_)
      · cases e65
        exact k82 _ _ (fun z => h63 (of_decide_eq_true z))
      · cases e65
        exact k70 _ _ (decide_eq_true h63)
theorem l_Mod_goesBy_3  {n_r : Int32} {t_r : Int32} {N' : mM} (K : ∀ u3 : Value, wp X (d + 6) f_Mod_goesBy (0, 0) 146 [.ref 312, .int n_r, .int t_r, u3] [] (lay N') Q) : ∀ (n : Nat) (n_ : Int32) (t_ : Int32) (M : mM) (u3 : Value), L_Mod_goesBy_3 z n n_ t_ M = some (n_r, t_r, N') → wp X (d + 6) f_Mod_goesBy (0, 0) 113 [.ref 312, .int n_, .int t_, u3] [] (lay M) Q := by
  intro n
  induction n with
  | zero => intro n_ t_ M u3 h; exact nn h
  | succ n ih =>
    intro n_ t_ M u3 h
    obtain ⟨x91, e92, h⟩ := ob1_some h
    have k95 : ∀ u3 : Value, x91 = true → wp X (d + 6) f_Mod_goesBy (0, 0) 124 [.ref 312, .int n_, .int t_, u3] [] (lay M) Q := by
      intro u3 x96
      replace h := ip h x96
      obtain ⟨x97, M99, e98, h⟩ := ob2_some h
      have k103 : ∀ u3 : Value, x97 = true → wp X (d + 6) f_Mod_goesBy (0, 0) 132 [.ref 312, .int n_, .int t_, u3] [] (lay M99) Q := by
        intro u3 x104
        replace h := ip h x104
        refine wp_iload_n d_Mod_goesBy_132 rfl rfl ?_
        refine wp_iconst d_Mod_goesBy_133 (v := nI 1) rfl ?_
        refine wp_iadd d_Mod_goesBy_134 ?_
        refine wp_istore_n d_Mod_goesBy_135 rfl (by decide) ?_
        refine wp_goto 113 d_Mod_goesBy_136 rfl ?_
        exact ih _ _ _ _ h
      have k105 : ∀ u3 : Value, ¬ x97 = true → wp X (d + 6) f_Mod_goesBy (0, 0) 139 [.ref 312, .int n_, .int t_, u3] [] (lay M99) Q := by
        intro u3 x106
        replace h := inn h x106
        refine wp_iload_n d_Mod_goesBy_139 rfl rfl ?_
        refine wp_iconst d_Mod_goesBy_140 (v := nI 1) rfl ?_
        refine wp_iadd d_Mod_goesBy_141 ?_
        refine wp_istore_n d_Mod_goesBy_142 rfl (by decide) ?_
        refine wp_goto 113 d_Mod_goesBy_143 rfl ?_
        exact ih _ _ _ _ h
      refine wp_aload_n d_Mod_goesBy_124 rfl rfl ?_
      refine wp_iload_n d_Mod_goesBy_125 rfl rfl ?_
      obtain ⟨v107, M108, e109, e98⟩ := ob2_some e98
      refine wl_callV1 d_Mod_goesBy_126 lc_Mod_isFreed lv_Mod_370 rfl sh_312 rfl rfl ⟨rfl, rfl⟩ ⟨by decide, by decide⟩ ?_
      refine s_Mod_isFreed (d := d) e109 ?_
      refine wc_eq 139 d_Mod_goesBy_129 rfl (fun h129 => ?_) (fun h129 => ?_)
      · cases e98
        exact k105 _ h129
      · cases e98
        exact k103 _ h129
    have k110 : ∀ u3 : Value, ¬ x91 = true → wp X (d + 6) f_Mod_goesBy (0, 0) 146 [.ref 312, .int n_, .int t_, u3] [] (lay M) Q := by
      intro u3 x111
      replace h := inn h x111
      cases h
      exact K _
    refine wp_iload_n d_Mod_goesBy_113 rfl rfl ?_
    refine wp_aload_n d_Mod_goesBy_114 rfl rfl ?_
    refine wl_getR d_Mod_goesBy_115 lf_Mod_7 sh_312 rfl ?_
    refine wp_bipush d_Mod_goesBy_118 (v := nI 8) rfl ?_
    obtain ⟨v113, e112, e92⟩ := ob1_some e92
    refine wa_ald d_Mod_goesBy_120 sh_313 e112 ?_
    refine wq_icmp_ge 146 d_Mod_goesBy_121 rfl (fun h121 => ?_) (fun h121 => ?_)
    · cases e92
      exact k110 _ (fun z => h121 (of_decide_eq_true z))
    · cases e92
      exact k95 _ (decide_eq_true h121)
theorem l_Mod_goesBy_4  {q2 : Value} {n_r : Int32} {N' : mM} (K : ∀ u3 : Value, wp X (d + 6) f_Mod_goesBy (0, 0) 183 [.ref 312, .int n_r, q2, u3] [] (lay N') Q) : ∀ (n : Nat) (n_ : Int32) (i_ : Int32) (M : mM), L_Mod_goesBy_4 z n n_ i_ M = some (n_r, N') → wp X (d + 6) f_Mod_goesBy (0, 0) 149 [.ref 312, .int n_, q2, .int i_] [] (lay M) Q := by
  intro n
  induction n with
  | zero => intro n_ i_ M h; exact nn h
  | succ n ih =>
    intro n_ i_ M h
    refine wp_iload_n d_Mod_goesBy_149 rfl rfl ?_
    refine wz_lt 183 d_Mod_goesBy_150 rfl (fun h150 => ?_) (fun h150 => ?_)
    · replace h := inn h (fun z => z h150)
      cases h
      exact K _
    · replace h := ip h h150
      obtain ⟨n_155, M156, e157, h⟩ := ob2_some h
      have k154 : wp X (d + 6) f_Mod_goesBy (0, 0) 177 [.ref 312, .int n_155, q2, .int i_] [] (lay M156) Q := by
        refine wp_iinc d_Mod_goesBy_177 (v := i_ + (-1)) rfl rfl ?_
        refine wp_goto 149 d_Mod_goesBy_180 rfl ?_
        exact ih _ _ _ h
      obtain ⟨x158, M160, e159, e157⟩ := ob2_some e157
      have k176 : x158 = true → wp X (d + 6) f_Mod_goesBy (0, 0) 173 [.ref 312, .int n_, q2, .int i_] [] (lay M160) Q := by
        intro x177
        replace e157 := ip e157 x177
        refine wp_iload_n d_Mod_goesBy_173 rfl rfl ?_
        refine wp_iconst d_Mod_goesBy_174 (v := nI 1) rfl ?_
        refine wp_iadd d_Mod_goesBy_175 ?_
        refine wp_istore_n d_Mod_goesBy_176 rfl (by decide) ?_
        cases e157
        exact k154
      have k178 : ¬ x158 = true → wp X (d + 6) f_Mod_goesBy (0, 0) 177 [.ref 312, .int n_, q2, .int i_] [] (lay M160) Q := by
        intro x179
        replace e157 := inn e157 x179
        cases e157
        exact k154
      obtain ⟨x180, e181, e159⟩ := ob1_some e159
      have k184 : x180 = true → wp X (d + 6) f_Mod_goesBy (0, 0) 161 [.ref 312, .int n_, q2, .int i_] [] (lay M) Q := by
        intro x185
        replace e159 := ip e159 x185
        refine wp_aload_n d_Mod_goesBy_161 rfl rfl ?_
        refine wp_aload_n d_Mod_goesBy_162 rfl rfl ?_
        refine wp_iload_n d_Mod_goesBy_163 rfl rfl ?_
        obtain ⟨v186, e187, e159⟩ := ob1_some e159
        refine wl_callV1 d_Mod_goesBy_164 lc_Mod_stuckAt lv_Mod_128 rfl sh_312 rfl rfl ⟨rfl, rfl⟩ ⟨by decide, by decide⟩ ?_
        refine s_Mod_stuckAt (d := d + 4) e187 ?_
        obtain ⟨v188, M189, e190, e159⟩ := ob2_some e159
        refine wl_callV1 d_Mod_goesBy_167 lc_Mod_fallsOff lv_Mod_373 rfl sh_312 rfl rfl ⟨rfl, rfl⟩ ⟨by decide, by decide⟩ ?_
        refine s_Mod_fallsOff (d := d) e190 ?_
        refine wc_eq 177 d_Mod_goesBy_170 rfl (fun h170 => ?_) (fun h170 => ?_)
        · cases e159
          exact k178 h170
        · cases e159
          exact k176 h170
      have k191 : ¬ x180 = true → wp X (d + 6) f_Mod_goesBy (0, 0) 177 [.ref 312, .int n_, q2, .int i_] [] (lay M) Q := by
        intro x192
        replace e159 := inn e159 x192
        cases e159
        exact k178 (fun z => Bool.noConfusion z)
      refine wp_aload_n d_Mod_goesBy_153 rfl rfl ?_
      refine wp_iload_n d_Mod_goesBy_154 rfl rfl ?_
      obtain ⟨v193, e194, e181⟩ := ob1_some e181
      refine wl_callV1 d_Mod_goesBy_155 lc_Mod_isTaken lv_Mod_332 rfl sh_312 rfl rfl ⟨rfl, rfl⟩ ⟨by decide, by decide⟩ ?_
      refine s_Mod_isTaken (d := d + 3) e194 ?_
      refine wc_eq 177 d_Mod_goesBy_158 rfl (fun h158 => ?_) (fun h158 => ?_)
      · cases e181
        exact k191 h158
      · cases e181
        exact k184 h158
theorem s_Mod_goesBy {M : mM} {r : Int32} {M' : mM} (h : F_Mod_goesBy z M = some (r, M')) (hq : Q (some (.int r)) (lay M')) : Sp X (d + 6) f_Mod_goesBy [.ref 312] (lay M) Q := by
  refine Sp_of (by decide) rfl (Nat.le_of_ble_eq_true rfl) ?_
  refine wp_iconst d_Mod_goesBy_0 (v := nI 0) rfl ?_
  refine wp_istore_n d_Mod_goesBy_1 rfl (by decide) ?_
  obtain ⟨M36, e202, h⟩ := ob1_some h
  refine l_Mod_goesBy_1 ?_ _ _ _ _ _ e202
  intro u1 u2 u3
  refine wp_iconst d_Mod_goesBy_39 (v := nI 0) rfl ?_
  refine wp_istore_n d_Mod_goesBy_40 rfl (by decide) ?_
  obtain ⟨M88, e201, h⟩ := ob1_some h
  refine l_Mod_goesBy_2 ?_ _ _ _ _ _ e201
  intro u1 u2 u3
  refine wp_iconst d_Mod_goesBy_109 (v := nI 0) rfl ?_
  refine wp_istore_n d_Mod_goesBy_110 rfl (by decide) ?_
  refine wp_iconst d_Mod_goesBy_111 (v := nI 0) rfl ?_
  refine wp_istore_n d_Mod_goesBy_112 rfl (by decide) ?_
  obtain ⟨n_114, t_115, M116, e200, h⟩ := ob3_some h
  refine l_Mod_goesBy_3 ?_ _ _ _ _ _ e200
  intro u3
  refine wp_bipush d_Mod_goesBy_146 (v := nI 59) rfl ?_
  refine wp_istore_n d_Mod_goesBy_148 rfl (by decide) ?_
  obtain ⟨n_195, M196, e199, h⟩ := ob2_some h
  refine l_Mod_goesBy_4 ?_ _ _ _ _ e199
  intro u3
  refine wp_aload_n d_Mod_goesBy_183 rfl rfl ?_
  obtain ⟨M197, e198, h⟩ := ob1_some h
  refine wl_callV0 d_Mod_goesBy_184 lc_Mod_evening lv_Mod_376 rfl sh_312 rfl rfl ⟨rfl, rfl⟩ ⟨by decide, by decide⟩ ?_
  refine s_Mod_evening (d := d + 2) e198 ?_
  refine wp_iload_n d_Mod_goesBy_187 rfl rfl ?_
  cases h
  exact wp_iret d_Mod_goesBy_188 rfl rfl rfl hq
def L_Mod_days_1 (z : Nat) (n_ : Int32) : Nat → Int32 → Int32 → mM → Option (Int32 × mM)
  | 0, _, _, _ => none
  | n + 1, sum_, k_, M =>
    if k_ < n_ then
    ob1 (F_Mod_keepsAhead z M) fun M9 =>
    ob2 (F_Mod_goesBy z M9) fun v11 M12 =>
    L_Mod_days_1 z n_ n (sum_ + v11) (k_ + nI 1) M12
    else
    some (sum_, M)
def F_Mod_days (z : Nat) (n_ : Int32) (M : mM) : Option (Int32 × mM) :=
  ob1 (if ¬ ((F_Mod_isIn n_ (nI 1) (nI 60)) = true) then some (true)
  else ob1 (ra M 313 270 (nI 0)) fun v18 =>
  some (decide ((nI 9999) < (v18 + n_)))) fun x1 =>
  if x1 = true then
  some ((-1), M)
  else
  ob2 (L_Mod_days_1 z n_ z (nI 0) (nI 0) M) fun sum_14 M15 =>
  some (sum_14, M15)
theorem l_Mod_days_1 {n_ : Int32}  {sum_r : Int32} {N' : mM} (K : ∀ u3 : Value, wp X (d + 7) f_Mod_days (0, 0) 58 [.ref 312, .int n_, .int sum_r, u3] [] (lay N') Q) : ∀ (n : Nat) (sum_ : Int32) (k_ : Int32) (M : mM), L_Mod_days_1 z n_ n sum_ k_ M = some (sum_r, N') → wp X (d + 7) f_Mod_days (0, 0) 36 [.ref 312, .int n_, .int sum_, .int k_] [] (lay M) Q := by
  intro n
  induction n with
  | zero => intro sum_ k_ M h; exact nn h
  | succ n ih =>
    intro sum_ k_ M h
    refine wp_iload_n d_Mod_days_36 rfl rfl ?_
    refine wp_iload_n d_Mod_days_37 rfl rfl ?_
    refine wq_icmp_ge 58 d_Mod_days_38 rfl (fun h38 => ?_) (fun h38 => ?_)
    · replace h := inn h h38
      cases h
      exact K _
    · replace h := ip h h38
      refine wp_aload_n d_Mod_days_41 rfl rfl ?_
      obtain ⟨M9, e10, h⟩ := ob1_some h
      refine wl_callV0 d_Mod_days_42 lc_Mod_keepsAhead lv_Mod_345 rfl sh_312 rfl rfl ⟨rfl, rfl⟩ ⟨by decide, by decide⟩ ?_
      refine s_Mod_keepsAhead (d := d + 6) e10 ?_
      refine wp_iload_n d_Mod_days_45 rfl rfl ?_
      refine wp_aload_n d_Mod_days_46 rfl rfl ?_
      obtain ⟨v11, M12, e13, h⟩ := ob2_some h
      refine wl_callV0 d_Mod_days_47 lc_Mod_goesBy lv_Mod_379 rfl sh_312 rfl rfl ⟨rfl, rfl⟩ ⟨by decide, by decide⟩ ?_
      refine s_Mod_goesBy (d := d) e13 ?_
      refine wp_iadd d_Mod_days_50 ?_
      refine wp_istore_n d_Mod_days_51 rfl (by decide) ?_
      refine wp_iinc d_Mod_days_52 (v := k_ + nI 1) rfl rfl ?_
      refine wp_goto 36 d_Mod_days_55 rfl ?_
      exact ih _ _ _ h
theorem s_Mod_days {n_ : Int32} {M : mM} {r : Int32} {M' : mM} (h : F_Mod_days z n_ M = some (r, M')) (hq : Q (some (.int r)) (lay M')) : Sp X (d + 7) f_Mod_days [.ref 312, .int n_] (lay M) Q := by
  refine Sp_of (by decide) rfl (Nat.le_of_ble_eq_true rfl) ?_
  refine wp_aload_n d_Mod_days_0 rfl rfl ?_
  refine wp_iconst d_Mod_days_1 (v := nI 0) rfl ?_
  refine wl_putC d_Mod_days_2 lp_Mod_107 sh_312 rfl ⟨rfl, rfl⟩ ?_
  obtain ⟨x1, e2, h⟩ := ob1_some h
  have k5 : ∀ u2 u3 : Value, x1 = true → wp X (d + 7) f_Mod_days (0, 0) 30 [.ref 312, .int n_, u2, u3] [] (lay M) Q := by
    intro u2 u3 x6
    replace h := ip h x6
    refine wp_iconst d_Mod_days_30 (v := (-1)) rfl ?_
    cases h
    exact wp_iret d_Mod_days_31 rfl rfl rfl hq
  have k7 : ∀ u2 u3 : Value, ¬ x1 = true → wp X (d + 7) f_Mod_days (0, 0) 32 [.ref 312, .int n_, u2, u3] [] (lay M) Q := by
    intro u2 u3 x8
    replace h := inn h x8
    refine wp_iconst d_Mod_days_32 (v := nI 0) rfl ?_
    refine wp_istore_n d_Mod_days_33 rfl (by decide) ?_
    refine wp_iconst d_Mod_days_34 (v := nI 0) rfl ?_
    refine wp_istore_n d_Mod_days_35 rfl (by decide) ?_
    obtain ⟨sum_14, M15, e16, h⟩ := ob2_some h
    refine l_Mod_days_1 ?_ _ _ _ _ e16
    intro u3
    refine wp_iload_n d_Mod_days_58 rfl rfl ?_
    cases h
    exact wp_iret d_Mod_days_59 rfl rfl rfl hq
  refine wp_aload_n d_Mod_days_5 rfl rfl ?_
  refine wp_iload_n d_Mod_days_6 rfl rfl ?_
  refine wp_iconst d_Mod_days_7 (v := nI 1) rfl ?_
  refine wp_bipush d_Mod_days_8 (v := nI 60) rfl ?_
  refine wl_callV3 d_Mod_days_10 lc_Mod_isIn lv_Mod_135 rfl sh_312 rfl rfl ⟨rfl, rfl⟩ ⟨by decide, by decide⟩ ?_
  refine s_Mod_isIn (d := d + 6) rfl ?_
  refine wc_eq 30 d_Mod_days_13 rfl (fun h13 => ?_) (fun h13 => ?_)
  · replace e2 := ip e2 h13
    cases e2
    exact k5 _ _ rfl
  · replace e2 := inn e2 (fun z => z h13)
    refine wp_aload_n d_Mod_days_16 rfl rfl ?_
    refine wl_getR d_Mod_days_17 lf_Mod_7 sh_312 rfl ?_
    refine wp_iconst d_Mod_days_20 (v := nI 0) rfl ?_
    obtain ⟨v18, e17, e2⟩ := ob1_some e2
    refine wa_ald d_Mod_days_21 sh_313 e17 ?_
    refine wp_iload_n d_Mod_days_22 rfl rfl ?_
    refine wp_iadd d_Mod_days_23 ?_
    refine wp_sipush d_Mod_days_24 (v := nI 9999) rfl ?_
    refine wq_icmp_le 32 d_Mod_days_27 rfl (fun h27 => ?_) (fun h27 => ?_)
    · cases e2
      exact k7 _ _ (fun z => h27 (of_decide_eq_true z))
    · cases e2
      exact k5 _ _ (decide_eq_true h27)
def F_Mod_inch (z : Nat) (inch_ : Int32) (what_ : Int32) (M : mM) : Option (Int32) :=
  if ¬ ((F_Mod_isInch inch_) = true) then
  some ((-2))
  else
  if what_ = (nI 0) then
  ob1 (F_Mod_glue inch_ M) fun v68 =>
  some (v68)
  else
  if what_ = (nI 1) then
  ob1 (ra M 313 270 ((nI 70) + inch_)) fun v67 =>
  some (v67)
  else
  ob1 (if ¬ (what_ = (nI 2)) then
  some ((-2))
  else
  ob1 (ob1 (ob1 (F_Mod_isTaken z inch_ M) fun v64 =>
  some (v64)) fun x52 =>
  if x52 = true then
  ob1 (F_Mod_stuckAt z inch_ M) fun v58 =>
  ob1 (ra M 313 270 (F_Mod_thingAt v58)) fun v61 =>
  some (v61)
  else
  some ((-1))) fun v50 =>
  some (v50)) fun v33 =>
  some (v33)
theorem s_Mod_inch {inch_ : Int32} {what_ : Int32} {M : mM} {r : Int32} (h : F_Mod_inch z inch_ what_ M = some r) (hq : Q (some (.int r)) (lay M)) : Sp X (d + 3) f_Mod_inch [.ref 312, .int inch_, .int what_] (lay M) Q := by
  refine Sp_of (by decide) rfl (Nat.le_of_ble_eq_true rfl) ?_
  refine wp_aload_n d_Mod_inch_0 rfl rfl ?_
  refine wp_iconst d_Mod_inch_1 (v := nI 0) rfl ?_
  refine wl_putC d_Mod_inch_2 lp_Mod_107 sh_312 rfl ⟨rfl, rfl⟩ ?_
  refine wp_aload_n d_Mod_inch_5 rfl rfl ?_
  refine wp_iload_n d_Mod_inch_6 rfl rfl ?_
  refine wl_callV1 d_Mod_inch_7 lc_Mod_isInch lv_Mod_131 rfl sh_312 rfl rfl ⟨rfl, rfl⟩ ⟨by decide, by decide⟩ ?_
  refine s_Mod_isInch (d := d + 2) rfl ?_
  refine wc_ne 16 d_Mod_inch_10 rfl (fun h10 => ?_) (fun h10 => ?_)
  · replace h := inn h (fun z => z h10)
    refine wp_iload_n d_Mod_inch_16 rfl rfl ?_
    refine wz_ne 26 d_Mod_inch_17 rfl (fun h17 => ?_) (fun h17 => ?_)
    · replace h := inn h h17
      refine wp_iload_n d_Mod_inch_26 rfl rfl ?_
      refine wp_iconst d_Mod_inch_27 (v := nI 1) rfl ?_
      refine wq_icmp_ne 41 d_Mod_inch_28 rfl (fun h28 => ?_) (fun h28 => ?_)
      · replace h := inn h h28
        obtain ⟨v33, e34, h⟩ := ob1_some h
        have k32 : wp X (d + 3) f_Mod_inch (0, 0) 77 [.ref 312, .int inch_, .int what_] [.int v33] (lay M) Q := by
          cases h
          exact wp_iret d_Mod_inch_77 rfl rfl rfl hq
        refine wp_iload_n d_Mod_inch_41 rfl rfl ?_
        refine wp_iconst d_Mod_inch_42 (v := nI 2) rfl ?_
        refine wq_icmp_eq 51 d_Mod_inch_43 rfl (fun h43 => ?_) (fun h43 => ?_)
        · replace e34 := inn e34 (fun z => z h43)
          obtain ⟨v50, e51, e34⟩ := ob1_some e34
          have k49 : wp X (d + 3) f_Mod_inch (0, 0) 77 [.ref 312, .int inch_, .int what_] [.int v50] (lay M) Q := by
            cases e34
            exact k32
          obtain ⟨x52, e53, e51⟩ := ob1_some e51
          have k56 : x52 = true → wp X (d + 3) f_Mod_inch (0, 0) 59 [.ref 312, .int inch_, .int what_] [] (lay M) Q := by
            intro x57
            replace e51 := ip e51 x57
            refine wp_aload_n d_Mod_inch_59 rfl rfl ?_
            refine wl_getR d_Mod_inch_60 lf_Mod_7 sh_312 rfl ?_
            refine wp_aload_n d_Mod_inch_63 rfl rfl ?_
            refine wp_aload_n d_Mod_inch_64 rfl rfl ?_
            refine wp_iload_n d_Mod_inch_65 rfl rfl ?_
            obtain ⟨v58, e59, e51⟩ := ob1_some e51
            refine wl_callV1 d_Mod_inch_66 lc_Mod_stuckAt lv_Mod_128 rfl sh_312 rfl rfl ⟨rfl, rfl⟩ ⟨by decide, by decide⟩ ?_
            refine s_Mod_stuckAt (d := d + 1) e59 ?_
            refine wl_callV1 d_Mod_inch_69 lc_Mod_thingAt lv_Mod_124 rfl sh_312 rfl rfl ⟨rfl, rfl⟩ ⟨by decide, by decide⟩ ?_
            refine s_Mod_thingAt (d := d + 2) rfl ?_
            obtain ⟨v61, e60, e51⟩ := ob1_some e51
            refine wa_ald d_Mod_inch_72 sh_313 e60 ?_
            cases e51
            refine wp_goto 77 d_Mod_inch_73 rfl ?_
            exact k49
          have k62 : ¬ x52 = true → wp X (d + 3) f_Mod_inch (0, 0) 76 [.ref 312, .int inch_, .int what_] [] (lay M) Q := by
            intro x63
            replace e51 := inn e51 x63
            refine wp_iconst d_Mod_inch_76 (v := (-1)) rfl ?_
            cases e51
            exact k49
          refine wp_aload_n d_Mod_inch_51 rfl rfl ?_
          refine wp_iload_n d_Mod_inch_52 rfl rfl ?_
          obtain ⟨v64, e65, e53⟩ := ob1_some e53
          refine wl_callV1 d_Mod_inch_53 lc_Mod_isTaken lv_Mod_332 rfl sh_312 rfl rfl ⟨rfl, rfl⟩ ⟨by decide, by decide⟩ ?_
          refine s_Mod_isTaken (d := d) e65 ?_
          refine wc_eq 76 d_Mod_inch_56 rfl (fun h56 => ?_) (fun h56 => ?_)
          · cases e53
            exact k62 h56
          · cases e53
            exact k56 h56
        · replace e34 := ip e34 h43
          refine wp_bipush d_Mod_inch_46 (v := (-2)) rfl ?_
          cases e34
          refine wp_goto 77 d_Mod_inch_48 rfl ?_
          exact k32
      · replace h := ip h h28
        refine wp_aload_n d_Mod_inch_31 rfl rfl ?_
        refine wl_getR d_Mod_inch_32 lf_Mod_7 sh_312 rfl ?_
        refine wp_bipush d_Mod_inch_35 (v := nI 70) rfl ?_
        refine wp_iload_n d_Mod_inch_37 rfl rfl ?_
        refine wp_iadd d_Mod_inch_38 ?_
        obtain ⟨v67, e66, h⟩ := ob1_some h
        refine wa_ald d_Mod_inch_39 sh_313 e66 ?_
        cases h
        exact wp_iret d_Mod_inch_40 rfl rfl rfl hq
    · replace h := ip h h17
      refine wp_aload_n d_Mod_inch_20 rfl rfl ?_
      refine wp_iload_n d_Mod_inch_21 rfl rfl ?_
      obtain ⟨v68, e69, h⟩ := ob1_some h
      refine wl_callV1 d_Mod_inch_22 lc_Mod_glue lv_Mod_309 rfl sh_312 rfl rfl ⟨rfl, rfl⟩ ⟨by decide, by decide⟩ ?_
      refine s_Mod_glue (d := d + 2) e69 ?_
      cases h
      exact wp_iret d_Mod_inch_25 rfl rfl rfl hq
  · replace h := ip h h10
    refine wp_bipush d_Mod_inch_13 (v := (-2)) rfl ?_
    cases h
    exact wp_iret d_Mod_inch_15 rfl rfl rfl hq
def F_Mod_of (z : Nat) (thing_ : Int32) (what_ : Int32) (M : mM) : Option (Int32 × mM) :=
  ob1 (F_Mod_thingOf z thing_ M) fun v1 =>
  if (v1 = (-1) ∨ ¬ ((F_Mod_isIn what_ (nI 0) (nI 9)) = true)) then
  some ((-1), M)
  else
  if what_ < (nI 6) then
  ob1 (ra M 313 270 (((F_Mod_thingAt v1) + (nI 1)) + what_)) fun v21 =>
  some (v21, M)
  else
  if what_ = (nI 7) then
  ob2 (F_Mod_freesOf z v1 M) fun v17 M18 =>
  some (v17, M18)
  else
  if what_ = (nI 8) then
  ob2 (F_Mod_slidesOf z v1 M) fun v14 M15 =>
  some (v14, M15)
  else
  if what_ = (nI 9) then
  ob1 (ra M 313 270 ((F_Mod_thingAt v1) + (nI 4))) fun v11 =>
  ob1 (F_Mod_nearTo z v11 M) fun v12 =>
  some (v12, M)
  else
  ob1 (F_Mod_asksOf z v1 M) fun M5 =>
  ob2 (F_Mod_sticksNow z M5) fun v7 M8 =>
  some (v7, M8)
theorem s_Mod_of {thing_ : Int32} {what_ : Int32} {M : mM} {r : Int32} {M' : mM} (h : F_Mod_of z thing_ what_ M = some (r, M')) (hq : Q (some (.int r)) (lay M')) : Sp X (d + 5) f_Mod_of [.ref 312, .int thing_, .int what_] (lay M) Q := by
  refine Sp_of (by decide) rfl (Nat.le_of_ble_eq_true rfl) ?_
  refine wp_aload_n d_Mod_of_0 rfl rfl ?_
  refine wp_iconst d_Mod_of_1 (v := nI 0) rfl ?_
  refine wl_putC d_Mod_of_2 lp_Mod_107 sh_312 rfl ⟨rfl, rfl⟩ ?_
  refine wp_aload_n d_Mod_of_5 rfl rfl ?_
  refine wp_iload_n d_Mod_of_6 rfl rfl ?_
  obtain ⟨v1, e2, h⟩ := ob1_some h
  refine wl_callV1 d_Mod_of_7 lc_Mod_thingOf lv_Mod_139 rfl sh_312 rfl rfl ⟨rfl, rfl⟩ ⟨by decide, by decide⟩ ?_
  refine s_Mod_thingOf (d := d + 3) e2 ?_
  refine wp_istore_n d_Mod_of_10 rfl (by decide) ?_
  have k3 : (v1 = (-1) ∨ ¬ ((F_Mod_isIn what_ (nI 0) (nI 9)) = true)) → wp X (d + 5) f_Mod_of (0, 0) 27 [.ref 312, .int thing_, .int what_, .int v1] [] (lay M) Q := by
    intro x4
    replace h := ip h x4
    refine wp_iconst d_Mod_of_27 (v := (-1)) rfl ?_
    cases h
    exact wp_iret d_Mod_of_28 rfl rfl rfl hq
  refine wp_iload_n d_Mod_of_11 rfl rfl ?_
  refine wp_iconst d_Mod_of_12 (v := (-1)) rfl ?_
  refine wq_icmp_eq 27 d_Mod_of_13 rfl (fun h13 => ?_) (fun h13 => ?_)
  · exact k3 (Or.inl h13)
  · refine wp_aload_n d_Mod_of_16 rfl rfl ?_
    refine wp_iload_n d_Mod_of_17 rfl rfl ?_
    refine wp_iconst d_Mod_of_18 (v := nI 0) rfl ?_
    refine wp_bipush d_Mod_of_19 (v := nI 9) rfl ?_
    refine wl_callV3 d_Mod_of_21 lc_Mod_isIn lv_Mod_135 rfl sh_312 rfl rfl ⟨rfl, rfl⟩ ⟨by decide, by decide⟩ ?_
    refine s_Mod_isIn (d := d + 4) rfl ?_
    refine wc_ne 29 d_Mod_of_24 rfl (fun h24 => ?_) (fun h24 => ?_)
    · replace h := inn h (fun z => z.elim h13 (fun z => z h24))
      refine wp_iload_n d_Mod_of_29 rfl rfl ?_
      refine wp_bipush d_Mod_of_30 (v := nI 6) rfl ?_
      refine wq_icmp_ge 50 d_Mod_of_32 rfl (fun h32 => ?_) (fun h32 => ?_)
      · replace h := inn h h32
        refine wp_iload_n d_Mod_of_50 rfl rfl ?_
        refine wp_bipush d_Mod_of_51 (v := nI 7) rfl ?_
        refine wq_icmp_ne 62 d_Mod_of_53 rfl (fun h53 => ?_) (fun h53 => ?_)
        · replace h := inn h h53
          refine wp_iload_n d_Mod_of_62 rfl rfl ?_
          refine wp_bipush d_Mod_of_63 (v := nI 8) rfl ?_
          refine wq_icmp_ne 74 d_Mod_of_65 rfl (fun h65 => ?_) (fun h65 => ?_)
          · replace h := inn h h65
            refine wp_iload_n d_Mod_of_74 rfl rfl ?_
            refine wp_bipush d_Mod_of_75 (v := nI 9) rfl ?_
            refine wq_icmp_ne 97 d_Mod_of_77 rfl (fun h77 => ?_) (fun h77 => ?_)
            · replace h := inn h h77
              refine wp_aload_n d_Mod_of_97 rfl rfl ?_
              refine wp_iload_n d_Mod_of_98 rfl rfl ?_
              obtain ⟨M5, e6, h⟩ := ob1_some h
              refine wl_callV1 d_Mod_of_99 lc_Mod_asksOf lv_Mod_325 rfl sh_312 rfl rfl ⟨rfl, rfl⟩ ⟨by decide, by decide⟩ ?_
              refine s_Mod_asksOf (d := d + 1) e6 ?_
              refine wp_aload_n d_Mod_of_102 rfl rfl ?_
              obtain ⟨v7, M8, e9, h⟩ := ob2_some h
              refine wl_callV0 d_Mod_of_103 lc_Mod_sticksNow lv_Mod_335 rfl sh_312 rfl rfl ⟨rfl, rfl⟩ ⟨by decide, by decide⟩ ?_
              refine s_Mod_sticksNow (d := d) e9 ?_
              cases h
              exact wp_iret d_Mod_of_106 rfl rfl rfl hq
            · replace h := ip h h77
              refine wp_aload_n d_Mod_of_80 rfl rfl ?_
              refine wp_aload_n d_Mod_of_81 rfl rfl ?_
              refine wl_getR d_Mod_of_82 lf_Mod_7 sh_312 rfl ?_
              refine wp_aload_n d_Mod_of_85 rfl rfl ?_
              refine wp_iload_n d_Mod_of_86 rfl rfl ?_
              refine wl_callV1 d_Mod_of_87 lc_Mod_thingAt lv_Mod_124 rfl sh_312 rfl rfl ⟨rfl, rfl⟩ ⟨by decide, by decide⟩ ?_
              refine s_Mod_thingAt (d := d + 4) rfl ?_
              refine wp_iconst d_Mod_of_90 (v := nI 4) rfl ?_
              refine wp_iadd d_Mod_of_91 ?_
              obtain ⟨v11, e10, h⟩ := ob1_some h
              refine wa_ald d_Mod_of_92 sh_313 e10 ?_
              obtain ⟨v12, e13, h⟩ := ob1_some h
              refine wl_callV1 d_Mod_of_93 lc_Mod_nearTo lv_Mod_312 rfl sh_312 rfl rfl ⟨rfl, rfl⟩ ⟨by decide, by decide⟩ ?_
              refine s_Mod_nearTo (d := d + 3) e13 ?_
              cases h
              exact wp_iret d_Mod_of_96 rfl rfl rfl hq
          · replace h := ip h h65
            refine wp_aload_n d_Mod_of_68 rfl rfl ?_
            refine wp_iload_n d_Mod_of_69 rfl rfl ?_
            obtain ⟨v14, M15, e16, h⟩ := ob2_some h
            refine wl_callV1 d_Mod_of_70 lc_Mod_slidesOf lv_Mod_357 rfl sh_312 rfl rfl ⟨rfl, rfl⟩ ⟨by decide, by decide⟩ ?_
            refine s_Mod_slidesOf (d := d) e16 ?_
            cases h
            exact wp_iret d_Mod_of_73 rfl rfl rfl hq
        · replace h := ip h h53
          refine wp_aload_n d_Mod_of_56 rfl rfl ?_
          refine wp_iload_n d_Mod_of_57 rfl rfl ?_
          obtain ⟨v17, M18, e19, h⟩ := ob2_some h
          refine wl_callV1 d_Mod_of_58 lc_Mod_freesOf lv_Mod_351 rfl sh_312 rfl rfl ⟨rfl, rfl⟩ ⟨by decide, by decide⟩ ?_
          refine s_Mod_freesOf (d := d) e19 ?_
          cases h
          exact wp_iret d_Mod_of_61 rfl rfl rfl hq
      · replace h := ip h h32
        refine wp_aload_n d_Mod_of_35 rfl rfl ?_
        refine wl_getR d_Mod_of_36 lf_Mod_7 sh_312 rfl ?_
        refine wp_aload_n d_Mod_of_39 rfl rfl ?_
        refine wp_iload_n d_Mod_of_40 rfl rfl ?_
        refine wl_callV1 d_Mod_of_41 lc_Mod_thingAt lv_Mod_124 rfl sh_312 rfl rfl ⟨rfl, rfl⟩ ⟨by decide, by decide⟩ ?_
        refine s_Mod_thingAt (d := d + 4) rfl ?_
        refine wp_iconst d_Mod_of_44 (v := nI 1) rfl ?_
        refine wp_iadd d_Mod_of_45 ?_
        refine wp_iload_n d_Mod_of_46 rfl rfl ?_
        refine wp_iadd d_Mod_of_47 ?_
        obtain ⟨v21, e20, h⟩ := ob1_some h
        refine wa_ald d_Mod_of_48 sh_313 e20 ?_
        cases h
        exact wp_iret d_Mod_of_49 rfl rfl rfl hq
    · exact k3 (Or.inr h24)
def F_Mod_book (i_ : Int32) (what_ : Int32) (M : mM) : Option (Int32) :=
  ob1 (ob1 (ob1 (ob1 (ra M 313 270 (nI 2)) fun v59 =>
  some (F_Mod_isIn i_ (nI 0) (v59 - (nI 1)))) fun x50 =>
  if x50 = true then some (decide ((F_Mod_isIn what_ (nI 0) (nI 3)) = true))
  else some (false)) fun x32 =>
  if x32 = true then
  ob1 (ra M 316 600 (((nI 4) * i_) + what_)) fun v47 =>
  some (v47)
  else
  some ((-2))) fun v30 =>
  some (v30)
theorem s_Mod_book {i_ : Int32} {what_ : Int32} {M : mM} {r : Int32} (h : F_Mod_book i_ what_ M = some r) (hq : Q (some (.int r)) (lay M)) : Sp X (d + 1) f_Mod_book [.ref 312, .int i_, .int what_] (lay M) Q := by
  refine Sp_of (by decide) rfl (Nat.le_of_ble_eq_true rfl) ?_
  refine wp_aload_n d_Mod_book_0 rfl rfl ?_
  refine wp_iconst d_Mod_book_1 (v := nI 0) rfl ?_
  refine wl_putC d_Mod_book_2 lp_Mod_107 sh_312 rfl ⟨rfl, rfl⟩ ?_
  obtain ⟨v30, e31, h⟩ := ob1_some h
  have k29 : wp X (d + 1) f_Mod_book (0, 0) 47 [.ref 312, .int i_, .int what_] [.int v30] (lay M) Q := by
    cases h
    exact wp_iret d_Mod_book_47 rfl rfl rfl hq
  obtain ⟨x32, e33, e31⟩ := ob1_some e31
  have k44 : x32 = true → wp X (d + 1) f_Mod_book (0, 0) 32 [.ref 312, .int i_, .int what_] [] (lay M) Q := by
    intro x45
    replace e31 := ip e31 x45
    refine wp_aload_n d_Mod_book_32 rfl rfl ?_
    refine wl_getR d_Mod_book_33 lf_Mod_19 sh_312 rfl ?_
    refine wp_iconst d_Mod_book_36 (v := nI 4) rfl ?_
    refine wp_iload_n d_Mod_book_37 rfl rfl ?_
    refine wp_imul d_Mod_book_38 ?_
    refine wp_iload_n d_Mod_book_39 rfl rfl ?_
    refine wp_iadd d_Mod_book_40 ?_
    obtain ⟨v47, e46, e31⟩ := ob1_some e31
    refine wa_ald d_Mod_book_41 sh_316 e46 ?_
    cases e31
    refine wp_goto 47 d_Mod_book_42 rfl ?_
    exact k29
  have k48 : ¬ x32 = true → wp X (d + 1) f_Mod_book (0, 0) 45 [.ref 312, .int i_, .int what_] [] (lay M) Q := by
    intro x49
    replace e31 := inn e31 x49
    refine wp_bipush d_Mod_book_45 (v := (-2)) rfl ?_
    cases e31
    exact k29
  obtain ⟨x50, e51, e33⟩ := ob1_some e33
  have k54 : x50 = true → wp X (d + 1) f_Mod_book (0, 0) 22 [.ref 312, .int i_, .int what_] [] (lay M) Q := by
    intro x55
    replace e33 := ip e33 x55
    refine wp_aload_n d_Mod_book_22 rfl rfl ?_
    refine wp_iload_n d_Mod_book_23 rfl rfl ?_
    refine wp_iconst d_Mod_book_24 (v := nI 0) rfl ?_
    refine wp_iconst d_Mod_book_25 (v := nI 3) rfl ?_
    refine wl_callV3 d_Mod_book_26 lc_Mod_isIn lv_Mod_135 rfl sh_312 rfl rfl ⟨rfl, rfl⟩ ⟨by decide, by decide⟩ ?_
    refine s_Mod_isIn (d := d) rfl ?_
    refine wc_eq 45 d_Mod_book_29 rfl (fun h29 => ?_) (fun h29 => ?_)
    · cases e33
      exact k48 (fun z => h29 (of_decide_eq_true z))
    · cases e33
      exact k44 (decide_eq_true h29)
  have k56 : ¬ x50 = true → wp X (d + 1) f_Mod_book (0, 0) 45 [.ref 312, .int i_, .int what_] [] (lay M) Q := by
    intro x57
    replace e33 := inn e33 x57
    cases e33
    exact k48 (fun z => Bool.noConfusion z)
  refine wp_aload_n d_Mod_book_5 rfl rfl ?_
  refine wp_iload_n d_Mod_book_6 rfl rfl ?_
  refine wp_iconst d_Mod_book_7 (v := nI 0) rfl ?_
  refine wp_aload_n d_Mod_book_8 rfl rfl ?_
  refine wl_getR d_Mod_book_9 lf_Mod_7 sh_312 rfl ?_
  refine wp_iconst d_Mod_book_12 (v := nI 2) rfl ?_
  obtain ⟨v59, e58, e51⟩ := ob1_some e51
  refine wa_ald d_Mod_book_13 sh_313 e58 ?_
  refine wp_iconst d_Mod_book_14 (v := nI 1) rfl ?_
  refine wp_isub d_Mod_book_15 ?_
  refine wl_callV3 d_Mod_book_16 lc_Mod_isIn lv_Mod_135 rfl sh_312 rfl rfl ⟨rfl, rfl⟩ ⟨by decide, by decide⟩ ?_
  refine s_Mod_isIn (d := d) rfl ?_
  refine wc_eq 45 d_Mod_book_19 rfl (fun h19 => ?_) (fun h19 => ?_)
  · cases e51
    exact k56 h19
  · cases e51
    exact k54 h19
def L_Mod_glueOfAll_1 (z : Nat) (M : mM) : Nat → Int32 → Int32 → Option (Int32)
  | 0, _, _ => none
  | n + 1, sum_, i_ =>
    if i_ < (nI 60) then
    ob1 (F_Mod_glue i_ M) fun v1 =>
    L_Mod_glueOfAll_1 z M n (sum_ + v1) (i_ + nI 1)
    else
    some (sum_)
def F_Mod_glueOfAll (z : Nat) (M : mM) : Option (Int32) :=
  ob1 (L_Mod_glueOfAll_1 z M z (nI 0) (nI 0)) fun sum_3 =>
  some (sum_3)
theorem l_Mod_glueOfAll_1 {M : mM}  {sum_r : Int32} (K : ∀ u2 : Value, wp X (d + 1) f_Mod_glueOfAll (0, 0) 24 [.ref 312, .int sum_r, u2] [] (lay M) Q) : ∀ (n : Nat) (sum_ : Int32) (i_ : Int32), L_Mod_glueOfAll_1 z M n sum_ i_ = some (sum_r) → wp X (d + 1) f_Mod_glueOfAll (0, 0) 4 [.ref 312, .int sum_, .int i_] [] (lay M) Q := by
  intro n
  induction n with
  | zero => intro sum_ i_ h; exact nn h
  | succ n ih =>
    intro sum_ i_ h
    refine wp_iload_n d_Mod_glueOfAll_4 rfl rfl ?_
    refine wp_bipush d_Mod_glueOfAll_5 (v := nI 60) rfl ?_
    refine wq_icmp_ge 24 d_Mod_glueOfAll_7 rfl (fun h7 => ?_) (fun h7 => ?_)
    · replace h := inn h h7
      cases h
      exact K _
    · replace h := ip h h7
      refine wp_iload_n d_Mod_glueOfAll_10 rfl rfl ?_
      refine wp_aload_n d_Mod_glueOfAll_11 rfl rfl ?_
      refine wp_iload_n d_Mod_glueOfAll_12 rfl rfl ?_
      obtain ⟨v1, e2, h⟩ := ob1_some h
      refine wl_callV1 d_Mod_glueOfAll_13 lc_Mod_glue lv_Mod_309 rfl sh_312 rfl rfl ⟨rfl, rfl⟩ ⟨by decide, by decide⟩ ?_
      refine s_Mod_glue (d := d) e2 ?_
      refine wp_iadd d_Mod_glueOfAll_16 ?_
      refine wp_istore_n d_Mod_glueOfAll_17 rfl (by decide) ?_
      refine wp_iinc d_Mod_glueOfAll_18 (v := i_ + nI 1) rfl rfl ?_
      refine wp_goto 4 d_Mod_glueOfAll_21 rfl ?_
      exact ih _ _ h
theorem s_Mod_glueOfAll {M : mM} {r : Int32} (h : F_Mod_glueOfAll z M = some r) (hq : Q (some (.int r)) (lay M)) : Sp X (d + 1) f_Mod_glueOfAll [.ref 312] (lay M) Q := by
  refine Sp_of (by decide) rfl (Nat.le_of_ble_eq_true rfl) ?_
  refine wp_iconst d_Mod_glueOfAll_0 (v := nI 0) rfl ?_
  refine wp_istore_n d_Mod_glueOfAll_1 rfl (by decide) ?_
  refine wp_iconst d_Mod_glueOfAll_2 (v := nI 0) rfl ?_
  refine wp_istore_n d_Mod_glueOfAll_3 rfl (by decide) ?_
  obtain ⟨sum_3, e4, h⟩ := ob1_some h
  refine l_Mod_glueOfAll_1 ?_ _ _ _ e4
  intro u2
  refine wp_iload_n d_Mod_glueOfAll_24 rfl rfl ?_
  cases h
  exact wp_iret d_Mod_glueOfAll_25 rfl rfl rfl hq
def L_Mod_goes_1 (z : Nat) (n_ : Int32) : Nat → Int32 → mM → Option (mM)
  | 0, _, _ => none
  | n + 1, k_, M =>
    if k_ < n_ then
    ob2 (F_Mod_goesBy z M) fun v5 M6 =>
    L_Mod_goes_1 z n_ n (k_ + nI 1) M6
    else
    some (M)
def F_Mod_goes (z : Nat) (n_ : Int32) (what_ : Int32) (M : mM) : Option (Int32 × mM) :=
  if (¬ ((F_Mod_isIn n_ (nI 1) (nI 60)) = true) ∨ ¬ ((F_Mod_isIn what_ (nI 0) (nI 3)) = true)) then
  some ((-1), M)
  else
  ob1 (F_Mod_thinks z M) fun M3 =>
  ob1 (L_Mod_goes_1 z n_ z (nI 0) M3) fun M8 =>
  ob1 (if what_ = (nI 0) then
  ob1 (ra M8 313 270 (nI 8)) fun v75 =>
  some (v75)
  else
  ob1 (if what_ = (nI 1) then
  ob1 (ra M8 313 270 (nI 6)) fun v73 =>
  some (v73)
  else
  ob1 (if what_ = (nI 2) then
  ob1 (F_Mod_legsOfAll z M8) fun v70 =>
  some (v70)
  else
  ob1 (F_Mod_glueOfAll z M8) fun v68 =>
  some (v68)) fun v66 =>
  some (v66)) fun v59 =>
  some (v59)) fun v41 =>
  ob1 (F_Mod_endsThought z M8) fun M43 =>
  some (v41, M43)
theorem l_Mod_goes_1 {n_ : Int32}  {q2 : Value} {N' : mM} (K : ∀ u3 : Value, wp X (d + 7) f_Mod_goes (0, 0) 50 [.ref 312, .int n_, q2, u3] [] (lay N') Q) : ∀ (n : Nat) (k_ : Int32) (M : mM), L_Mod_goes_1 z n_ n k_ M = some (N') → wp X (d + 7) f_Mod_goes (0, 0) 34 [.ref 312, .int n_, q2, .int k_] [] (lay M) Q := by
  intro n
  induction n with
  | zero => intro k_ M h; exact nn h
  | succ n ih =>
    intro k_ M h
    refine wp_iload_n d_Mod_goes_34 rfl rfl ?_
    refine wp_iload_n d_Mod_goes_35 rfl rfl ?_
    refine wq_icmp_ge 50 d_Mod_goes_36 rfl (fun h36 => ?_) (fun h36 => ?_)
    · replace h := inn h h36
      cases h
      exact K _
    · replace h := ip h h36
      refine wp_aload_n d_Mod_goes_39 rfl rfl ?_
      obtain ⟨v5, M6, e7, h⟩ := ob2_some h
      refine wl_callV0 d_Mod_goes_40 lc_Mod_goesBy lv_Mod_379 rfl sh_312 rfl rfl ⟨rfl, rfl⟩ ⟨by decide, by decide⟩ ?_
      refine s_Mod_goesBy (d := d) e7 ?_
      refine wp_pop d_Mod_goes_43 rfl ?_
      refine wp_iinc d_Mod_goes_44 (v := k_ + nI 1) rfl rfl ?_
      refine wp_goto 34 d_Mod_goes_47 rfl ?_
      exact ih _ _ h
theorem s_Mod_goes {n_ : Int32} {what_ : Int32} {M : mM} {r : Int32} {M' : mM} (h : F_Mod_goes z n_ what_ M = some (r, M')) (hq : Q (some (.int r)) (lay M')) : Sp X (d + 7) f_Mod_goes [.ref 312, .int n_, .int what_] (lay M) Q := by
  refine Sp_of (by decide) rfl (Nat.le_of_ble_eq_true rfl) ?_
  refine wp_aload_n d_Mod_goes_0 rfl rfl ?_
  refine wp_iconst d_Mod_goes_1 (v := nI 0) rfl ?_
  refine wl_putC d_Mod_goes_2 lp_Mod_107 sh_312 rfl ⟨rfl, rfl⟩ ?_
  have k1 : ∀ u3 : Value, (¬ ((F_Mod_isIn n_ (nI 1) (nI 60)) = true) ∨ ¬ ((F_Mod_isIn what_ (nI 0) (nI 3)) = true)) → wp X (d + 7) f_Mod_goes (0, 0) 26 [.ref 312, .int n_, .int what_, u3] [] (lay M) Q := by
    intro u3 x2
    replace h := ip h x2
    refine wp_iconst d_Mod_goes_26 (v := (-1)) rfl ?_
    cases h
    exact wp_iret d_Mod_goes_27 rfl rfl rfl hq
  refine wp_aload_n d_Mod_goes_5 rfl rfl ?_
  refine wp_iload_n d_Mod_goes_6 rfl rfl ?_
  refine wp_iconst d_Mod_goes_7 (v := nI 1) rfl ?_
  refine wp_bipush d_Mod_goes_8 (v := nI 60) rfl ?_
  refine wl_callV3 d_Mod_goes_10 lc_Mod_isIn lv_Mod_135 rfl sh_312 rfl rfl ⟨rfl, rfl⟩ ⟨by decide, by decide⟩ ?_
  refine s_Mod_isIn (d := d + 6) rfl ?_
  refine wc_eq 26 d_Mod_goes_13 rfl (fun h13 => ?_) (fun h13 => ?_)
  · exact k1 _ (Or.inl h13)
  · refine wp_aload_n d_Mod_goes_16 rfl rfl ?_
    refine wp_iload_n d_Mod_goes_17 rfl rfl ?_
    refine wp_iconst d_Mod_goes_18 (v := nI 0) rfl ?_
    refine wp_iconst d_Mod_goes_19 (v := nI 3) rfl ?_
    refine wl_callV3 d_Mod_goes_20 lc_Mod_isIn lv_Mod_135 rfl sh_312 rfl rfl ⟨rfl, rfl⟩ ⟨by decide, by decide⟩ ?_
    refine s_Mod_isIn (d := d + 6) rfl ?_
    refine wc_ne 28 d_Mod_goes_23 rfl (fun h23 => ?_) (fun h23 => ?_)
    · replace h := inn h (fun z => z.elim (fun z => z h13) (fun z => z h23))
      refine wp_aload_n d_Mod_goes_28 rfl rfl ?_
      obtain ⟨M3, e4, h⟩ := ob1_some h
      refine wl_callV0 d_Mod_goes_29 lc_Mod_thinks lv_Mod_382 rfl sh_312 rfl rfl ⟨rfl, rfl⟩ ⟨by decide, by decide⟩ ?_
      refine s_Mod_thinks (d := d + 6) e4 ?_
      refine wp_iconst d_Mod_goes_32 (v := nI 0) rfl ?_
      refine wp_istore_n d_Mod_goes_33 rfl (by decide) ?_
      obtain ⟨M8, e76, h⟩ := ob1_some h
      refine l_Mod_goes_1 ?_ _ _ _ e76
      intro u3
      obtain ⟨v41, e42, h⟩ := ob1_some h
      have k40 : ∀ u3 : Value, wp X (d + 7) f_Mod_goes (0, 0) 95 [.ref 312, .int n_, .int what_, u3] [.int v41] (lay M8) Q := by
        intro u3
        refine wp_istore_n d_Mod_goes_95 rfl (by decide) ?_
        refine wp_aload_n d_Mod_goes_96 rfl rfl ?_
        obtain ⟨M43, e44, h⟩ := ob1_some h
        refine wl_callV0 d_Mod_goes_97 lc_Mod_endsThought lv_Mod_391 rfl sh_312 rfl rfl ⟨rfl, rfl⟩ ⟨by decide, by decide⟩ ?_
        refine s_Mod_endsThought (d := d + 6) e44 ?_
        refine wp_iload_n d_Mod_goes_100 rfl rfl ?_
        cases h
        exact wp_iret d_Mod_goes_101 rfl rfl rfl hq
      refine wp_iload_n d_Mod_goes_50 rfl rfl ?_
      refine wz_ne 64 d_Mod_goes_51 rfl (fun h51 => ?_) (fun h51 => ?_)
      · replace e42 := inn e42 h51
        obtain ⟨v59, e60, e42⟩ := ob1_some e42
        have k58 : ∀ u3 : Value, wp X (d + 7) f_Mod_goes (0, 0) 95 [.ref 312, .int n_, .int what_, u3] [.int v59] (lay M8) Q := by
          intro u3
          cases e42
          exact k40 _
        refine wp_iload_n d_Mod_goes_64 rfl rfl ?_
        refine wp_iconst d_Mod_goes_65 (v := nI 1) rfl ?_
        refine wq_icmp_ne 79 d_Mod_goes_66 rfl (fun h66 => ?_) (fun h66 => ?_)
        · replace e60 := inn e60 h66
          obtain ⟨v66, e67, e60⟩ := ob1_some e60
          have k65 : ∀ u3 : Value, wp X (d + 7) f_Mod_goes (0, 0) 95 [.ref 312, .int n_, .int what_, u3] [.int v66] (lay M8) Q := by
            intro u3
            cases e60
            exact k58 _
          refine wp_iload_n d_Mod_goes_79 rfl rfl ?_
          refine wp_iconst d_Mod_goes_80 (v := nI 2) rfl ?_
          refine wq_icmp_ne 91 d_Mod_goes_81 rfl (fun h81 => ?_) (fun h81 => ?_)
          · replace e67 := inn e67 h81
            refine wp_aload_n d_Mod_goes_91 rfl rfl ?_
            obtain ⟨v68, e69, e67⟩ := ob1_some e67
            refine wl_callV0 d_Mod_goes_92 lc_Mod_glueOfAll lv_Mod_388 rfl sh_312 rfl rfl ⟨rfl, rfl⟩ ⟨by decide, by decide⟩ ?_
            refine s_Mod_glueOfAll (d := d + 5) e69 ?_
            cases e67
            exact k65 _
          · replace e67 := ip e67 h81
            refine wp_aload_n d_Mod_goes_84 rfl rfl ?_
            obtain ⟨v70, e71, e67⟩ := ob1_some e67
            refine wl_callV0 d_Mod_goes_85 lc_Mod_legsOfAll lv_Mod_385 rfl sh_312 rfl rfl ⟨rfl, rfl⟩ ⟨by decide, by decide⟩ ?_
            refine s_Mod_legsOfAll (d := d + 6) e71 ?_
            cases e67
            refine wp_goto 95 d_Mod_goes_88 rfl ?_
            exact k65 _
        · replace e60 := ip e60 h66
          refine wp_aload_n d_Mod_goes_69 rfl rfl ?_
          refine wl_getR d_Mod_goes_70 lf_Mod_7 sh_312 rfl ?_
          refine wp_bipush d_Mod_goes_73 (v := nI 6) rfl ?_
          obtain ⟨v73, e72, e60⟩ := ob1_some e60
          refine wa_ald d_Mod_goes_75 sh_313 e72 ?_
          cases e60
          refine wp_goto 95 d_Mod_goes_76 rfl ?_
          exact k58 _
      · replace e42 := ip e42 h51
        refine wp_aload_n d_Mod_goes_54 rfl rfl ?_
        refine wl_getR d_Mod_goes_55 lf_Mod_7 sh_312 rfl ?_
        refine wp_bipush d_Mod_goes_58 (v := nI 8) rfl ?_
        obtain ⟨v75, e74, e42⟩ := ob1_some e42
        refine wa_ald d_Mod_goes_60 sh_313 e74 ?_
        cases e42
        refine wp_goto 95 d_Mod_goes_61 rfl ?_
        exact k40 _
    · exact k1 _ (Or.inr h23)
end S1417
