/-! methods as functions: printed by program -/
section S141
variable {X : mXs} {d z : Nat} {Q : Option Value → mH → Prop}
def L_World_remove_1 (z : Nat) (w : Nat) : Nat → Int32 → mM → Option (mM)
  | 0, _, _ => none
  | n + 1, i_, M =>
    if i_ < (M w 5) then
    ob1 (rT M (w + 4) 20 (i_ + (nI 1))) fun c8 =>
    ob1 (wa M (w + 4) 20 i_ (nI c8)) fun M10 =>
    L_World_remove_1 z w n (i_ + nI 1) M10
    else
    some (M)
def F_World_remove (z : Nat) (w : Nat) (slot_ : Int32) (M : mM) : Option mM :=
  ob1 (rT M (w + 4) 20 slot_) fun c2 =>
  ob1 (wa M (w + 3) 60 (M c2 4) (-1)) fun M4 =>
  ob1 (some (up M4 w 5 ((M4 w 5) - (nI 1)))) fun M5 =>
  ob1 (L_World_remove_1 z w z slot_ M5) fun M11 =>
  ob1 (wa M11 (w + 4) 20 (M11 w 5) (nI c2)) fun M13 =>
  some M13
theorem l_World_remove_1 {w : Nat}  {q1 : Value} {q2 : Value} {N' : mM} (hw : isW w) (K : ∀ u3 : Value, wp X d f_World_remove (0, 0) 57 [.ref w, q1, q2, u3] [] (lay N') Q) : ∀ (n : Nat) (i_ : Int32) (M : mM), L_World_remove_1 z w n i_ M = some (N') → wp X d f_World_remove (0, 0) 29 [.ref w, q1, q2, .int i_] [] (lay M) Q := by
  intro n
  induction n with
  | zero => intro i_ M h; exact nn h
  | succ n ih =>
    intro i_ M h
    refine wp_iload_n d_World_remove_29 rfl rfl ?_
    refine wp_aload_n d_World_remove_30 rfl rfl ?_
    refine wl_getI d_World_remove_31 lf_World_36 (shW0 hw) rfl rfl ?_
    refine wq_icmp_ge 57 d_World_remove_34 rfl (fun h34 => ?_) (fun h34 => ?_)
    · replace h := inn h h34
      cases h
      exact K _
    · replace h := ip h h34
      refine wp_aload_n d_World_remove_37 rfl rfl ?_
      refine wl_getR d_World_remove_38 lf_World_23 (shW0 hw) rfl ?_
      refine wp_iload_n d_World_remove_41 rfl rfl ?_
      refine wp_aload_n d_World_remove_42 rfl rfl ?_
      refine wl_getR d_World_remove_43 lf_World_23 (shW0 hw) rfl ?_
      refine wp_iload_n d_World_remove_46 rfl rfl ?_
      refine wp_iconst d_World_remove_47 (v := nI 1) rfl ?_
      refine wp_iadd d_World_remove_48 ?_
      obtain ⟨c8, e7, h⟩ := ob1_some h
      have tc8 := rT_th e7
      refine wa_aald d_World_remove_49 (shW4 hw) e7 ?_
      obtain ⟨M10, e9, h⟩ := ob1_some h
      refine wa_aast d_World_remove_50 (shW4 hw) tc8 e9 ?_
      refine wp_iinc d_World_remove_51 (v := i_ + nI 1) rfl rfl ?_
      refine wp_goto 29 d_World_remove_54 rfl ?_
      exact ih _ _ h
theorem s_World_remove {w : Nat} {slot_ : Int32} {M : mM} {M' : mM} (hw : isW w) (h : F_World_remove z w slot_ M = some M') (hq : Q none (lay M')) : Sp X d f_World_remove [.ref w, .int slot_] (lay M) Q := by
  refine Sp_of (by decide) rfl (Nat.le_of_ble_eq_true rfl) ?_
  refine wp_aload_n d_World_remove_0 rfl rfl ?_
  refine wl_getR d_World_remove_1 lf_World_23 (shW0 hw) rfl ?_
  refine wp_iload_n d_World_remove_4 rfl rfl ?_
  obtain ⟨c2, e1, h⟩ := ob1_some h
  have tc2 := rT_th e1
  refine wa_aald d_World_remove_5 (shW4 hw) e1 ?_
  refine wp_astore_n d_World_remove_6 rfl (by decide) ?_
  refine wp_aload_n d_World_remove_7 rfl rfl ?_
  refine wl_getR d_World_remove_8 lf_World_18 (shW0 hw) rfl ?_
  refine wp_aload_n d_World_remove_11 rfl rfl ?_
  refine wl_getI d_World_remove_12 lf_World_111 (shTh tc2) rfl rfl ?_
  refine wp_iconst d_World_remove_15 (v := (-1)) rfl ?_
  obtain ⟨M4, e3, h⟩ := ob1_some h
  refine wa_ast d_World_remove_16 (shW3 hw) e3 ?_
  refine wp_aload_n d_World_remove_17 rfl rfl ?_
  refine wp_dup d_World_remove_18 rfl ?_
  refine wl_getI d_World_remove_19 lf_World_36 (shW0 hw) rfl rfl ?_
  refine wp_iconst d_World_remove_22 (v := nI 1) rfl ?_
  refine wp_isub d_World_remove_23 ?_
  refine wl_put d_World_remove_24 lp_World_36 (shW0 hw) rfl ⟨rfl, rfl⟩ ?_
  obtain ⟨M5, e6, h⟩ := ob1_some h
  refine wx_M e6 ?_
  refine wp_iload_n d_World_remove_27 rfl rfl ?_
  refine wp_istore_n d_World_remove_28 rfl (by decide) ?_
  obtain ⟨M11, e14, h⟩ := ob1_some h
  refine l_World_remove_1 hw ?_ _ _ _ e14
  intro u3
  refine wp_aload_n d_World_remove_57 rfl rfl ?_
  refine wl_getR d_World_remove_58 lf_World_23 (shW0 hw) rfl ?_
  refine wp_aload_n d_World_remove_61 rfl rfl ?_
  refine wl_getI d_World_remove_62 lf_World_36 (shW0 hw) rfl rfl ?_
  refine wp_aload_n d_World_remove_65 rfl rfl ?_
  obtain ⟨M13, e12, h⟩ := ob1_some h
  refine wa_aast d_World_remove_66 (shW4 hw) tc2 e12 ?_
  cases h
  exact wp_ret d_World_remove_67 rfl rfl hq
def F_World_tweeze (z : Nat) (w : Nat) (number_ : Int32) (M : mM) : Option mM :=
  ob1 (F_World_slotOf z w number_ M) fun v1 =>
  if ¬ (v1 = (-1)) then
  ob1 (some (up M w 11 ((M w 11) + (nI 1)))) fun M3 =>
  ob1 (rT M3 (w + 4) 20 v1) fun c6 =>
  ob1 (F_World_write w (nI 5) number_ (M3 c6 4) M3) fun M7 =>
  ob1 (F_World_remove z w v1 M7) fun M9 =>
  some M9
  else
  some M
theorem s_World_tweeze {w : Nat} {number_ : Int32} {M : mM} {M' : mM} (hw : isW w) (h : F_World_tweeze z w number_ M = some M') (hq : Q none (lay M')) : Sp X (d + 3) f_World_tweeze [.ref w, .int number_] (lay M) Q := by
  refine Sp_of (by decide) rfl (Nat.le_of_ble_eq_true rfl) ?_
  refine wp_aload_n d_World_tweeze_0 rfl rfl ?_
  refine wp_iload_n d_World_tweeze_1 rfl rfl ?_
  obtain ⟨v1, e2, h⟩ := ob1_some h
  refine wl_callV1 d_World_tweeze_2 lc_World_slotOf lv_World_88 rfl (shW0 hw) rfl rfl ⟨rfl, rfl⟩ ⟨by decide, by decide⟩ ?_
  refine s_World_slotOf (d := d + 2) hw e2 ?_
  refine wp_istore_n d_World_tweeze_5 rfl (by decide) ?_
  refine wp_iload_n d_World_tweeze_6 rfl rfl ?_
  refine wp_iconst d_World_tweeze_7 (v := (-1)) rfl ?_
  refine wq_icmp_eq 41 d_World_tweeze_8 rfl (fun h8 => ?_) (fun h8 => ?_)
  · replace h := inn h (fun z => z h8)
    cases h
    exact wp_ret d_World_tweeze_41 rfl rfl hq
  · replace h := ip h h8
    refine wp_aload_n d_World_tweeze_11 rfl rfl ?_
    refine wp_dup d_World_tweeze_12 rfl ?_
    refine wl_getI d_World_tweeze_13 lf_World_55 (shW0 hw) rfl rfl ?_
    refine wp_iconst d_World_tweeze_16 (v := nI 1) rfl ?_
    refine wp_iadd d_World_tweeze_17 ?_
    refine wl_put d_World_tweeze_18 lp_World_55 (shW0 hw) rfl ⟨rfl, rfl⟩ ?_
    obtain ⟨M3, e4, h⟩ := ob1_some h
    refine wx_M e4 ?_
    refine wp_aload_n d_World_tweeze_21 rfl rfl ?_
    refine wp_iconst d_World_tweeze_22 (v := nI 5) rfl ?_
    refine wp_iload_n d_World_tweeze_23 rfl rfl ?_
    refine wp_aload_n d_World_tweeze_24 rfl rfl ?_
    refine wl_getR d_World_tweeze_25 lf_World_23 (shW0 hw) rfl ?_
    refine wp_iload_n d_World_tweeze_28 rfl rfl ?_
    obtain ⟨c6, e5, h⟩ := ob1_some h
    have tc6 := rT_th e5
    refine wa_aald d_World_tweeze_29 (shW4 hw) e5 ?_
    refine wl_getI d_World_tweeze_30 lf_World_111 (shTh tc6) rfl rfl ?_
    obtain ⟨M7, e8, h⟩ := ob1_some h
    refine wl_callV3 d_World_tweeze_33 lc_World_write lv_World_120 rfl (shW0 hw) rfl rfl ⟨rfl, rfl⟩ ⟨by decide, by decide⟩ ?_
    refine s_World_write (d := d) hw e8 ?_
    refine wp_aload_n d_World_tweeze_36 rfl rfl ?_
    refine wp_iload_n d_World_tweeze_37 rfl rfl ?_
    obtain ⟨M9, e10, h⟩ := ob1_some h
    refine wl_callV1 d_World_tweeze_38 lc_World_remove lv_World_124 rfl (shW0 hw) rfl rfl ⟨rfl, rfl⟩ ⟨by decide, by decide⟩ ?_
    refine s_World_remove (d := d + 2) hw e10 ?_
    cases h
    exact wp_ret d_World_tweeze_41 rfl rfl hq
def F_Rec_act (z : Nat) (what_ : Int32) (who_ : Int32) (v_ : Int32) (M : mM) : Option (Bool × mM) :=
  ob1 (if what_ = (nI 0) then ob1 (F_World_find z 1 who_ M) fun c19 =>
  some (decide (¬ (c19 = none)))
  else some (false)) fun x1 =>
  if x1 = true then
  ob1 (F_Rec_remember z M) fun M7 =>
  ob1 (F_World_tweeze z 1 who_ M7) fun M9 =>
  some (true, M9)
  else
  if ((what_ = (nI 1) ∧ (F_Rec_within who_ (nI 0) (nI 59)) = true) ∧ (F_Rec_within v_ (nI 0) (nI 99)) = true) then
  ob1 (F_Rec_remember z M) fun M15 =>
  ob1 (wa M15 2 60 who_ v_) fun M18 =>
  some (true, M18)
  else
  some (false, M)
theorem s_Rec_act {what_ : Int32} {who_ : Int32} {v_ : Int32} {M : mM} {r : Bool} {M' : mM} (h : F_Rec_act z what_ who_ v_ M = some (r, M')) (hq : Q (some (.int (bI r))) (lay M')) : Sp X (d + 4) f_Rec_act [.ref 0, .int what_, .int who_, .int v_] (lay M) Q := by
  refine Sp_of (by decide) rfl (Nat.le_of_ble_eq_true rfl) ?_
  obtain ⟨x1, e2, h⟩ := ob1_some h
  have k5 : x1 = true → wp X (d + 4) f_Rec_act (0, 0) 15 [.ref 0, .int what_, .int who_, .int v_] [] (lay M) Q := by
    intro x6
    replace h := ip h x6
    refine wp_aload_n d_Rec_act_15 rfl rfl ?_
    obtain ⟨M7, e8, h⟩ := ob1_some h
    refine wl_callV0 d_Rec_act_16 lc_Rec_remember lv_Rec_125 rfl sh_0 rfl rfl ⟨rfl, rfl⟩ ⟨by decide, by decide⟩ ?_
    refine s_Rec_remember (d := d) e8 ?_
    refine wp_aload_n d_Rec_act_19 rfl rfl ?_
    refine wl_getR d_Rec_act_20 lf_Rec_12 sh_0 rfl ?_
    refine wp_iload_n d_Rec_act_23 rfl rfl ?_
    obtain ⟨M9, e10, h⟩ := ob1_some h
    refine wl_callV1 d_Rec_act_24 lc_World_tweeze lv_Rec_136 rfl (shW0 isW_1) rfl rfl ⟨rfl, rfl⟩ ⟨by decide, by decide⟩ ?_
    refine s_World_tweeze (d := d) isW_1 e10 ?_
    refine wp_iconst d_Rec_act_27 (v := bI true) rfl ?_
    cases h
    exact wb_iret d_Rec_act_28 rfl rfl hq
  have k11 : ¬ x1 = true → wp X (d + 4) f_Rec_act (0, 0) 29 [.ref 0, .int what_, .int who_, .int v_] [] (lay M) Q := by
    intro x12
    replace h := inn h x12
    have k13 : ¬ ((what_ = (nI 1) ∧ (F_Rec_within who_ (nI 0) (nI 59)) = true) ∧ (F_Rec_within v_ (nI 0) (nI 99)) = true) → wp X (d + 4) f_Rec_act (0, 0) 70 [.ref 0, .int what_, .int who_, .int v_] [] (lay M) Q := by
      intro x14
      replace h := inn h x14
      refine wp_iconst d_Rec_act_70 (v := bI false) rfl ?_
      cases h
      exact wb_iret d_Rec_act_71 rfl rfl hq
    refine wp_iload_n d_Rec_act_29 rfl rfl ?_
    refine wp_iconst d_Rec_act_30 (v := nI 1) rfl ?_
    refine wq_icmp_ne 70 d_Rec_act_31 rfl (fun h31 => ?_) (fun h31 => ?_)
    · exact k13 (fun z => (fun z => h31 z.1) z.1)
    · refine wp_iload_n d_Rec_act_34 rfl rfl ?_
      refine wp_iconst d_Rec_act_35 (v := nI 0) rfl ?_
      refine wp_bipush d_Rec_act_36 (v := nI 59) rfl ?_
      refine wl_callS3 d_Rec_act_38 lc_Rec_within ls_Rec_96 rfl ⟨rfl, rfl⟩ ⟨by decide, by decide⟩ ?_
      refine s_Rec_within (d := d + 3) rfl ?_
      refine wc_eq 70 d_Rec_act_41 rfl (fun h41 => ?_) (fun h41 => ?_)
      · exact k13 (fun z => (fun z => h41 z.2) z.1)
      · refine wp_iload_n d_Rec_act_44 rfl rfl ?_
        refine wp_iconst d_Rec_act_45 (v := nI 0) rfl ?_
        refine wp_bipush d_Rec_act_46 (v := nI 99) rfl ?_
        refine wl_callS3 d_Rec_act_48 lc_Rec_within ls_Rec_96 rfl ⟨rfl, rfl⟩ ⟨by decide, by decide⟩ ?_
        refine s_Rec_within (d := d + 3) rfl ?_
        refine wc_eq 70 d_Rec_act_51 rfl (fun h51 => ?_) (fun h51 => ?_)
        · exact k13 (fun z => h51 z.2)
        · replace h := ip h ⟨⟨h31, h41⟩, h51⟩
          refine wp_aload_n d_Rec_act_54 rfl rfl ?_
          obtain ⟨M15, e16, h⟩ := ob1_some h
          refine wl_callV0 d_Rec_act_55 lc_Rec_remember lv_Rec_125 rfl sh_0 rfl rfl ⟨rfl, rfl⟩ ⟨by decide, by decide⟩ ?_
          refine s_Rec_remember (d := d) e16 ?_
          refine wp_aload_n d_Rec_act_58 rfl rfl ?_
          refine wl_getR d_Rec_act_59 lf_Rec_12 sh_0 rfl ?_
          refine wl_getR d_Rec_act_62 lf_Rec_100 (shW0 isW_1) rfl ?_
          refine wp_iload_n d_Rec_act_65 rfl rfl ?_
          refine wp_iload_n d_Rec_act_66 rfl rfl ?_
          obtain ⟨M18, e17, h⟩ := ob1_some h
          refine wa_ast d_Rec_act_67 (shW1 isW_1) e17 ?_
          refine wp_iconst d_Rec_act_68 (v := bI true) rfl ?_
          cases h
          exact wb_iret d_Rec_act_69 rfl rfl hq
  refine wp_iload_n d_Rec_act_0 rfl rfl ?_
  refine wz_ne 29 d_Rec_act_1 rfl (fun h1 => ?_) (fun h1 => ?_)
  · replace e2 := inn e2 h1
    cases e2
    exact k11 (fun z => Bool.noConfusion z)
  · replace e2 := ip e2 h1
    refine wp_aload_n d_Rec_act_4 rfl rfl ?_
    refine wl_getR d_Rec_act_5 lf_Rec_12 sh_0 rfl ?_
    refine wp_iload_n d_Rec_act_8 rfl rfl ?_
    obtain ⟨c19, e20, e2⟩ := ob1_some e2
    refine wl_callV1 d_Rec_act_9 lc_World_find lv_Rec_88 rfl (shW0 isW_1) rfl rfl ⟨rfl, rfl⟩ ⟨by decide, by decide⟩ ?_
    refine s_World_find (d := d + 2) isW_1 e20 ?_
    refine wr_ifnull 29 d_Rec_act_12 rfl (fun h12 => ?_) (fun h12 => ?_)
    · cases e2
      exact k11 (fun z => (fun z => z h12) (of_decide_eq_true z))
    · cases e2
      exact k5 (decide_eq_true h12)
def F_Rows_get (r0 : Nat) (wd : Nat) (mo : Nat) (line_ : Int32) (column_ : Int32) (M : mM) : Option (Int32) :=
  ob1 (some (decide ((((¬ (line_ < (nI 0)) ∧ line_ < (M r0 3)) ∧ ¬ (column_ < (nI 0))) ∧ column_ < (nI wd))))) fun x2 =>
  ob1 (if x2 = true then
  ob1 (ra M (r0 + 1) (wd * mo) ((line_ * (nI wd)) + column_)) fun v10 =>
  some (v10)
  else
  some (nI 0)) fun v7 =>
  some (v7)
theorem s_Rows_get {r0 : Nat} {wd : Nat} {mo : Nat} {line_ : Int32} {column_ : Int32} {M : mM} {r : Int32} (hr : isR r0 wd mo) (h : F_Rows_get r0 wd mo line_ column_ M = some r) (hq : Q (some (.int r)) (lay M)) : Sp X d f_Rows_get [.ref r0, .int line_, .int column_] (lay M) Q := by
  refine Sp_of (by decide) rfl (Nat.le_of_ble_eq_true rfl) ?_
  have k1 : ∀ u3 : Value, wp X d f_Rows_get (0, 0) 29 [.ref r0, .int line_, .int column_, u3] [.int (bI (decide ((((¬ (line_ < (nI 0)) ∧ line_ < (M r0 3)) ∧ ¬ (column_ < (nI 0))) ∧ column_ < (nI wd)))))] (lay M) Q := by
    intro u3
    obtain ⟨x2, e3, h⟩ := ob1_some h
    refine wx_bool e3 ?_
    refine wp_istore_n d_Rows_get_29 rfl (by decide) ?_
    obtain ⟨v7, e8, h⟩ := ob1_some h
    have k6 : wp X d f_Rows_get (0, 0) 51 [.ref r0, .int line_, .int column_, .int (bI x2)] [.int v7] (lay M) Q := by
      cases h
      exact wp_iret d_Rows_get_51 rfl rfl rfl hq
    refine wp_iload_n d_Rows_get_30 rfl rfl ?_
    refine wc_eq 50 d_Rows_get_31 rfl (fun h31 => ?_) (fun h31 => ?_)
    · replace e8 := inn e8 h31
      refine wp_iconst d_Rows_get_50 (v := nI 0) rfl ?_
      cases e8
      exact k6
    · replace e8 := ip e8 h31
      refine wp_aload_n d_Rows_get_34 rfl rfl ?_
      refine wl_getR d_Rows_get_35 lf_Rows_19 (isR0 hr) rfl ?_
      refine wp_iload_n d_Rows_get_38 rfl rfl ?_
      refine wp_aload_n d_Rows_get_39 rfl rfl ?_
      refine wl_getR d_Rows_get_40 lf_Rows_13 (isR0 hr) rfl ?_
      refine wp_imul d_Rows_get_43 ?_
      refine wp_iload_n d_Rows_get_44 rfl rfl ?_
      refine wp_iadd d_Rows_get_45 ?_
      obtain ⟨v10, e9, e8⟩ := ob1_some e8
      refine wa_ald d_Rows_get_46 (isR1 hr) e9 ?_
      cases e8
      refine wp_goto 51 d_Rows_get_47 rfl ?_
      exact k6
  refine wp_iload_n d_Rows_get_0 rfl rfl ?_
  refine wz_lt 28 d_Rows_get_1 rfl (fun h1 => ?_) (fun h1 => ?_)
  · refine wp_iconst d_Rows_get_28 (v := nI 0) rfl ?_
    exact wj_f (fun z => (fun z => (fun z => (fun z => z h1) z.1) z.1) z.1) (k1 _)
  · refine wp_iload_n d_Rows_get_4 rfl rfl ?_
    refine wp_aload_n d_Rows_get_5 rfl rfl ?_
    refine wl_getI d_Rows_get_6 lf_Rows_7 (isR0 hr) rfl rfl ?_
    refine wq_icmp_ge 28 d_Rows_get_9 rfl (fun h9 => ?_) (fun h9 => ?_)
    · refine wp_iconst d_Rows_get_28 (v := nI 0) rfl ?_
      exact wj_f (fun z => (fun z => (fun z => h9 z.2) z.1) z.1) (k1 _)
    · refine wp_iload_n d_Rows_get_12 rfl rfl ?_
      refine wz_lt 28 d_Rows_get_13 rfl (fun h13 => ?_) (fun h13 => ?_)
      · refine wp_iconst d_Rows_get_28 (v := nI 0) rfl ?_
        exact wj_f (fun z => (fun z => (fun z => z h13) z.2) z.1) (k1 _)
      · refine wp_iload_n d_Rows_get_16 rfl rfl ?_
        refine wp_aload_n d_Rows_get_17 rfl rfl ?_
        refine wl_getR d_Rows_get_18 lf_Rows_13 (isR0 hr) rfl ?_
        refine wq_icmp_ge 28 d_Rows_get_21 rfl (fun h21 => ?_) (fun h21 => ?_)
        · refine wp_iconst d_Rows_get_28 (v := nI 0) rfl ?_
          exact wj_f (fun z => h21 z.2) (k1 _)
        · refine wp_iconst d_Rows_get_24 (v := nI 1) rfl ?_
          refine wp_goto 29 d_Rows_get_25 rfl ?_
          exact wj_t ⟨⟨⟨h1, h9⟩, h13⟩, h21⟩ (k1 _)
def F_Law_usual (l : Nat) (word_ : Int32) (w_world : Nat) (c_t : Nat) (M : mM) : Option (Int32) :=
  if word_ = nI 0 then
  ob1 (ra M (w_world + 1) 60 (M c_t 4)) fun v2 =>
  some (((nI 10) * v2) - ((nI 50) * (M w_world 7)))
  else
  if word_ = nI 1 then
  ob1 (ra M (w_world + 1) 60 (M c_t 4)) fun v4 =>
  some ((((nI 20) * (M c_t 3)) + ((nI 10) * (M w_world 7))) - ((nI 2) * v4))
  else
  some ((M w_world 8) / (nI 4))
theorem s_Law_usual {l : Nat} {word_ : Int32} {w_world : Nat} {c_t : Nat} {M : mM} {r : Int32} (hl : isL l) (hw_world : isW w_world) (hc_t : isTh c_t = true) (h : F_Law_usual l word_ w_world c_t M = some r) (hq : Q (some (.int r)) (lay M)) : Sp X d f_Law_usual [.ref l, .int word_, .ref w_world, .ref c_t] (lay M) Q := by
  refine Sp_of (by decide) rfl (Nat.le_of_ble_eq_true rfl) ?_
  refine wp_iload_n d_Law_usual_0 rfl rfl ?_
  by_cases h1_0 : word_ = nI 0
  · replace h := ip h h1_0
    refine wt_ls 28 (k := 0) (off := 27) (by decide) h1_0 d_Law_usual_1 (by decide) rfl (by decide) ?_
    refine wp_bipush d_Law_usual_28 (v := nI 10) rfl ?_
    refine wp_aload_n d_Law_usual_30 rfl rfl ?_
    refine wl_getR d_Law_usual_31 lf_Law_64 (shW0 hw_world) rfl ?_
    refine wp_aload_n d_Law_usual_34 rfl rfl ?_
    refine wl_getI d_Law_usual_35 lf_Law_69 (shTh hc_t) rfl rfl ?_
    obtain ⟨v2, e1, h⟩ := ob1_some h
    refine wa_ald d_Law_usual_38 (shW1 hw_world) e1 ?_
    refine wp_imul d_Law_usual_39 ?_
    refine wp_bipush d_Law_usual_40 (v := nI 50) rfl ?_
    refine wp_aload_n d_Law_usual_42 rfl rfl ?_
    refine wl_getI d_Law_usual_43 lf_Law_74 (shW0 hw_world) rfl rfl ?_
    refine wp_imul d_Law_usual_46 ?_
    refine wp_isub d_Law_usual_47 ?_
    cases h
    exact wp_iret d_Law_usual_48 rfl rfl rfl hq
  · replace h := inn h h1_0
    by_cases h1_1 : word_ = nI 1
    · replace h := ip h h1_1
      refine wt_ls 49 (k := 1) (off := 48) (by decide) h1_1 d_Law_usual_1 (by decide) rfl (by decide) ?_
      refine wp_bipush d_Law_usual_49 (v := nI 20) rfl ?_
      refine wp_aload_n d_Law_usual_51 rfl rfl ?_
      refine wl_getI d_Law_usual_52 lf_Law_77 (shTh hc_t) rfl rfl ?_
      refine wp_imul d_Law_usual_55 ?_
      refine wp_bipush d_Law_usual_56 (v := nI 10) rfl ?_
      refine wp_aload_n d_Law_usual_58 rfl rfl ?_
      refine wl_getI d_Law_usual_59 lf_Law_74 (shW0 hw_world) rfl rfl ?_
      refine wp_imul d_Law_usual_62 ?_
      refine wp_iadd d_Law_usual_63 ?_
      refine wp_iconst d_Law_usual_64 (v := nI 2) rfl ?_
      refine wp_aload_n d_Law_usual_65 rfl rfl ?_
      refine wl_getR d_Law_usual_66 lf_Law_64 (shW0 hw_world) rfl ?_
      refine wp_aload_n d_Law_usual_69 rfl rfl ?_
      refine wl_getI d_Law_usual_70 lf_Law_69 (shTh hc_t) rfl rfl ?_
      obtain ⟨v4, e3, h⟩ := ob1_some h
      refine wa_ald d_Law_usual_73 (shW1 hw_world) e3 ?_
      refine wp_imul d_Law_usual_74 ?_
      refine wp_isub d_Law_usual_75 ?_
      cases h
      exact wp_iret d_Law_usual_76 rfl rfl rfl hq
    · replace h := inn h h1_1
      refine wt_lsd2 77 (a := 0) (b := 1) (by decide) (by decide) h1_0 h1_1 d_Law_usual_1 (by decide) rfl ?_
      refine wp_aload_n d_Law_usual_77 rfl rfl ?_
      refine wl_getI d_Law_usual_78 lf_Law_80 (shW0 hw_world) rfl rfl ?_
      refine wp_iconst d_Law_usual_81 (v := nI 4) rfl ?_
      refine wp_idiv d_Law_usual_82 (by decide) ?_
      cases h
      exact wp_iret d_Law_usual_83 rfl rfl rfl hq
def F_Law_changed (c_ : Int32) (a_ : Int32) : Option (Int32) :=
  if (nI 20000) < c_ then
  ob1 (nz (c_ - (nI 20000)) (a_ / (c_ - (nI 20000)))) fun v2 =>
  some (v2)
  else
  some ((if a_ = (nI 0) then nI 1 else nI 0))
theorem s_Law_changed {c_ : Int32} {a_ : Int32} {M : mM} {r : Int32} (h : F_Law_changed c_ a_ = some r) (hq : Q (some (.int r)) (lay M)) : Sp X d f_Law_changed [.int c_, .int a_] (lay M) Q := by
  refine Sp_of (by decide) rfl (Nat.le_of_ble_eq_true rfl) ?_
  refine wp_iload_n d_Law_changed_0 rfl rfl ?_
  refine wp_sipush d_Law_changed_1 (v := nI 20000) rfl ?_
  refine wq_icmp_le 15 d_Law_changed_4 rfl (fun h4 => ?_) (fun h4 => ?_)
  · replace h := inn h h4
    have k1 : wp X d f_Law_changed (0, 0) 24 [.int c_, .int a_] [.int (if a_ = (nI 0) then nI 1 else nI 0)] (lay M) Q := by
      cases h
      exact wp_iret d_Law_changed_24 rfl rfl rfl hq
    refine wp_iload_n d_Law_changed_15 rfl rfl ?_
    refine wz_ne 23 d_Law_changed_16 rfl (fun h16 => ?_) (fun h16 => ?_)
    · refine wp_iconst d_Law_changed_23 (v := nI 0) rfl ?_
      exact wj_in h16 (k1)
    · refine wp_iconst d_Law_changed_19 (v := nI 1) rfl ?_
      refine wp_goto 24 d_Law_changed_20 rfl ?_
      exact wj_ip h16 (k1)
  · replace h := ip h h4
    refine wp_iload_n d_Law_changed_7 rfl rfl ?_
    refine wp_iload_n d_Law_changed_8 rfl rfl ?_
    refine wp_sipush d_Law_changed_9 (v := nI 20000) rfl ?_
    refine wp_isub d_Law_changed_12 ?_
    obtain ⟨v2, e3, h⟩ := ob1_some h
    refine wq_idiv d_Law_changed_13 e3 ?_
    cases h
    exact wp_iret d_Law_changed_14 rfl rfl rfl hq
def F_Law_joined (c_ : Int32) (a_ : Int32) (b_ : Int32) : Int32 :=
  if c_ = nI 11000 then
  a_ + b_
  else
  if c_ = nI 11001 then
  a_ - b_
  else
  if c_ = nI 11002 then
  a_ * b_
  else
  if c_ = nI 11003 then
  (if a_ < b_ then nI 1 else nI 0)
  else
  if c_ = nI 11004 then
  (if a_ = b_ then nI 1 else nI 0)
  else
  if c_ = nI 11005 then
  (if b_ < a_ then nI 1 else nI 0)
  else
  if c_ = nI 11006 then
  a_ &&& b_
  else
  a_ ||| b_
theorem s_Law_joined {c_ : Int32} {a_ : Int32} {b_ : Int32} {M : mM} {r : Int32} (h : F_Law_joined c_ a_ b_ = r) (hq : Q (some (.int r)) (lay M)) : Sp X d f_Law_joined [.int c_, .int a_, .int b_] (lay M) Q := by
  refine Sp_of (by decide) rfl (Nat.le_of_ble_eq_true rfl) ?_
  refine wp_iload_n d_Law_joined_0 rfl rfl ?_
  by_cases h1_11000 : c_ = nI 11000
  · replace h := ip h h1_11000
    refine wt_in 44 (k := 11000) (off := 43) (by decide) h1_11000 d_Law_joined_1 (by decide) (by decide) (by decide) (by decide) ?_
    refine wp_iload_n d_Law_joined_44 rfl rfl ?_
    refine wp_iload_n d_Law_joined_45 rfl rfl ?_
    refine wp_iadd d_Law_joined_46 ?_
    cases h
    exact wp_iret d_Law_joined_47 rfl rfl rfl hq
  · replace h := inn h h1_11000
    by_cases h1_11001 : c_ = nI 11001
    · replace h := ip h h1_11001
      refine wt_in 48 (k := 11001) (off := 47) (by decide) h1_11001 d_Law_joined_1 (by decide) (by decide) (by decide) (by decide) ?_
      refine wp_iload_n d_Law_joined_48 rfl rfl ?_
      refine wp_iload_n d_Law_joined_49 rfl rfl ?_
      refine wp_isub d_Law_joined_50 ?_
      cases h
      exact wp_iret d_Law_joined_51 rfl rfl rfl hq
    · replace h := inn h h1_11001
      by_cases h1_11002 : c_ = nI 11002
      · replace h := ip h h1_11002
        refine wt_in 52 (k := 11002) (off := 51) (by decide) h1_11002 d_Law_joined_1 (by decide) (by decide) (by decide) (by decide) ?_
        refine wp_iload_n d_Law_joined_52 rfl rfl ?_
        refine wp_iload_n d_Law_joined_53 rfl rfl ?_
        refine wp_imul d_Law_joined_54 ?_
        cases h
        exact wp_iret d_Law_joined_55 rfl rfl rfl hq
      · replace h := inn h h1_11002
        by_cases h1_11003 : c_ = nI 11003
        · replace h := ip h h1_11003
          refine wt_in 56 (k := 11003) (off := 55) (by decide) h1_11003 d_Law_joined_1 (by decide) (by decide) (by decide) (by decide) ?_
          have k1 : wp X d f_Law_joined (0, 0) 66 [.int c_, .int a_, .int b_] [.int (if a_ < b_ then nI 1 else nI 0)] (lay M) Q := by
            cases h
            exact wp_iret d_Law_joined_66 rfl rfl rfl hq
          refine wp_iload_n d_Law_joined_56 rfl rfl ?_
          refine wp_iload_n d_Law_joined_57 rfl rfl ?_
          refine wq_icmp_ge 65 d_Law_joined_58 rfl (fun h58 => ?_) (fun h58 => ?_)
          · refine wp_iconst d_Law_joined_65 (v := nI 0) rfl ?_
            exact wj_in h58 (k1)
          · refine wp_iconst d_Law_joined_61 (v := nI 1) rfl ?_
            refine wp_goto 66 d_Law_joined_62 rfl ?_
            exact wj_ip h58 (k1)
        · replace h := inn h h1_11003
          by_cases h1_11004 : c_ = nI 11004
          · replace h := ip h h1_11004
            refine wt_in 67 (k := 11004) (off := 66) (by decide) h1_11004 d_Law_joined_1 (by decide) (by decide) (by decide) (by decide) ?_
            have k2 : wp X d f_Law_joined (0, 0) 77 [.int c_, .int a_, .int b_] [.int (if a_ = b_ then nI 1 else nI 0)] (lay M) Q := by
              cases h
              exact wp_iret d_Law_joined_77 rfl rfl rfl hq
            refine wp_iload_n d_Law_joined_67 rfl rfl ?_
            refine wp_iload_n d_Law_joined_68 rfl rfl ?_
            refine wq_icmp_ne 76 d_Law_joined_69 rfl (fun h69 => ?_) (fun h69 => ?_)
            · refine wp_iconst d_Law_joined_76 (v := nI 0) rfl ?_
              exact wj_in h69 (k2)
            · refine wp_iconst d_Law_joined_72 (v := nI 1) rfl ?_
              refine wp_goto 77 d_Law_joined_73 rfl ?_
              exact wj_ip h69 (k2)
          · replace h := inn h h1_11004
            by_cases h1_11005 : c_ = nI 11005
            · replace h := ip h h1_11005
              refine wt_in 78 (k := 11005) (off := 77) (by decide) h1_11005 d_Law_joined_1 (by decide) (by decide) (by decide) (by decide) ?_
              have k3 : wp X d f_Law_joined (0, 0) 88 [.int c_, .int a_, .int b_] [.int (if b_ < a_ then nI 1 else nI 0)] (lay M) Q := by
                cases h
                exact wp_iret d_Law_joined_88 rfl rfl rfl hq
              refine wp_iload_n d_Law_joined_78 rfl rfl ?_
              refine wp_iload_n d_Law_joined_79 rfl rfl ?_
              refine wq_icmp_le 87 d_Law_joined_80 rfl (fun h80 => ?_) (fun h80 => ?_)
              · refine wp_iconst d_Law_joined_87 (v := nI 0) rfl ?_
                exact wj_in h80 (k3)
              · refine wp_iconst d_Law_joined_83 (v := nI 1) rfl ?_
                refine wp_goto 88 d_Law_joined_84 rfl ?_
                exact wj_ip h80 (k3)
            · replace h := inn h h1_11005
              by_cases h1_11006 : c_ = nI 11006
              · replace h := ip h h1_11006
                refine wt_in 89 (k := 11006) (off := 88) (by decide) h1_11006 d_Law_joined_1 (by decide) (by decide) (by decide) (by decide) ?_
                refine wp_iload_n d_Law_joined_89 rfl rfl ?_
                refine wp_iload_n d_Law_joined_90 rfl rfl ?_
                refine wp_iand d_Law_joined_91 ?_
                cases h
                exact wp_iret d_Law_joined_92 rfl rfl rfl hq
              · replace h := inn h h1_11006
                refine wt_out 93 d_Law_joined_1 (by decide) (fun y5 y41 y42 y4 => ?_) rfl ?_
                · have y43 : y5 = 11000 ∨ y5 = 11001 ∨ y5 = 11002 ∨ y5 = 11003 ∨ y5 = 11004 ∨ y5 = 11005 ∨ y5 = 11006 := by omega
                  rcases y43 with rfl | rfl | rfl | rfl | rfl | rfl | rfl
                  · exact h1_11000 y4
                  · exact h1_11001 y4
                  · exact h1_11002 y4
                  · exact h1_11003 y4
                  · exact h1_11004 y4
                  · exact h1_11005 y4
                  · exact h1_11006 y4
                · refine wp_iload_n d_Law_joined_93 rfl rfl ?_
                  refine wp_iload_n d_Law_joined_94 rfl rfl ?_
                  refine wp_ior d_Law_joined_95 ?_
                  cases h
                  exact wp_iret d_Law_joined_96 rfl rfl rfl hq
def F_World_isTaken (w : Nat) (inch_ : Int32) (M : mM) : Option (Bool) :=
  ob1 (if (¬ (inch_ < (nI 0)) ∧ inch_ < (nI 60)) then ob1 (ra M (w + 3) 60 inch_) fun v7 =>
  some (decide (¬ (v7 = (-1))))
  else some (false)) fun x4 =>
  some (x4)
theorem s_World_isTaken {w : Nat} {inch_ : Int32} {M : mM} {r : Bool} (hw : isW w) (h : F_World_isTaken w inch_ M = some r) (hq : Q (some (.int (bI r))) (lay M)) : Sp X d f_World_isTaken [.ref w, .int inch_] (lay M) Q := by
  refine Sp_of (by decide) rfl (Nat.le_of_ble_eq_true rfl) ?_
  obtain ⟨x4, e5, h⟩ := ob1_some h
  have k3 : wp X d f_World_isTaken (0, 0) 25 [.ref w, .int inch_] [.int (bI x4)] (lay M) Q := by
    cases h
    exact wb_iret d_World_isTaken_25 rfl rfl hq
  refine wp_iload_n d_World_isTaken_0 rfl rfl ?_
  refine wz_lt 24 d_World_isTaken_1 rfl (fun h1 => ?_) (fun h1 => ?_)
  · replace e5 := inn e5 (fun z => (fun z => z h1) z.1)
    cases e5
    refine wp_iconst d_World_isTaken_24 (v := nI 0) rfl ?_
    exact wj_b0 (fun z => Bool.noConfusion z) (k3)
  · refine wp_iload_n d_World_isTaken_4 rfl rfl ?_
    refine wp_bipush d_World_isTaken_5 (v := nI 60) rfl ?_
    refine wq_icmp_ge 24 d_World_isTaken_7 rfl (fun h7 => ?_) (fun h7 => ?_)
    · replace e5 := inn e5 (fun z => h7 z.2)
      cases e5
      refine wp_iconst d_World_isTaken_24 (v := nI 0) rfl ?_
      exact wj_b0 (fun z => Bool.noConfusion z) (k3)
    · replace e5 := ip e5 ⟨h1, h7⟩
      refine wp_aload_n d_World_isTaken_10 rfl rfl ?_
      refine wl_getR d_World_isTaken_11 lf_World_18 (shW0 hw) rfl ?_
      refine wp_iload_n d_World_isTaken_14 rfl rfl ?_
      obtain ⟨v7, e6, e5⟩ := ob1_some e5
      refine wa_ald d_World_isTaken_15 (shW3 hw) e6 ?_
      refine wp_iconst d_World_isTaken_16 (v := (-1)) rfl ?_
      refine wq_icmp_eq 24 d_World_isTaken_17 rfl (fun h17 => ?_) (fun h17 => ?_)
      · cases e5
        refine wp_iconst d_World_isTaken_24 (v := nI 0) rfl ?_
        exact wj_b0 (fun z => (fun z => z h17) (of_decide_eq_true z)) (k3)
      · cases e5
        refine wp_iconst d_World_isTaken_20 (v := nI 1) rfl ?_
        refine wp_goto 25 d_World_isTaken_21 rfl ?_
        exact wj_b1 (decide_eq_true h17) (k3)
def F_World_near (w : Nat) (inch_ : Int32) (M : mM) : Option (Int32) :=
  ob1 (ob1 (ob1 (F_World_isTaken w (inch_ - (nI 1)) M) fun v91 =>
  some (v91)) fun x83 =>
  if x83 = true then
  some (nI 1)
  else
  some (nI 0)) fun v12 =>
  ob1 (ob1 (ob1 (F_World_isTaken w (inch_ + (nI 1)) M) fun v81 =>
  some (v81)) fun x73 =>
  if x73 = true then
  some (nI 1)
  else
  some (nI 0)) fun v25 =>
  ob1 (ob1 (ob1 (F_World_isTaken w (inch_ - (nI 10)) M) fun v71 =>
  some (v71)) fun x63 =>
  if x63 = true then
  some (nI 1)
  else
  some (nI 0)) fun v38 =>
  ob1 (ob1 (ob1 (F_World_isTaken w (inch_ + (nI 10)) M) fun v61 =>
  some (v61)) fun x53 =>
  if x53 = true then
  some (nI 1)
  else
  some (nI 0)) fun v51 =>
  some (((v12 + v25) + v38) + v51)
theorem s_World_near {w : Nat} {inch_ : Int32} {M : mM} {r : Int32} (hw : isW w) (h : F_World_near w inch_ M = some r) (hq : Q (some (.int r)) (lay M)) : Sp X (d + 1) f_World_near [.ref w, .int inch_] (lay M) Q := by
  refine Sp_of (by decide) rfl (Nat.le_of_ble_eq_true rfl) ?_
  obtain ⟨v12, e13, h⟩ := ob1_some h
  have k11 : ∀ u2 : Value, wp X (d + 1) f_World_near (0, 0) 15 [.ref w, .int inch_, u2] [.int v12] (lay M) Q := by
    intro u2
    refine wp_istore_n d_World_near_15 rfl (by decide) ?_
    refine wp_iload_n d_World_near_16 rfl rfl ?_
    obtain ⟨v25, e26, h⟩ := ob1_some h
    have k24 : wp X (d + 1) f_World_near (0, 0) 32 [.ref w, .int inch_, .int v12] [.int v25, .int v12] (lay M) Q := by
      refine wp_iadd d_World_near_32 ?_
      refine wp_istore_n d_World_near_33 rfl (by decide) ?_
      refine wp_iload_n d_World_near_34 rfl rfl ?_
      obtain ⟨v38, e39, h⟩ := ob1_some h
      have k37 : wp X (d + 1) f_World_near (0, 0) 51 [.ref w, .int inch_, .int (v12 + v25)] [.int v38, .int (v12 + v25)] (lay M) Q := by
        refine wp_iadd d_World_near_51 ?_
        refine wp_istore_n d_World_near_52 rfl (by decide) ?_
        refine wp_iload_n d_World_near_53 rfl rfl ?_
        obtain ⟨v51, e52, h⟩ := ob1_some h
        have k50 : wp X (d + 1) f_World_near (0, 0) 70 [.ref w, .int inch_, .int ((v12 + v25) + v38)] [.int v51, .int ((v12 + v25) + v38)] (lay M) Q := by
          refine wp_iadd d_World_near_70 ?_
          refine wp_istore_n d_World_near_71 rfl (by decide) ?_
          refine wp_iload_n d_World_near_72 rfl rfl ?_
          cases h
          exact wp_iret d_World_near_73 rfl rfl rfl hq
        obtain ⟨x53, e54, e52⟩ := ob1_some e52
        have k57 : x53 = true → wp X (d + 1) f_World_near (0, 0) 65 [.ref w, .int inch_, .int ((v12 + v25) + v38)] [.int ((v12 + v25) + v38)] (lay M) Q := by
          intro x58
          replace e52 := ip e52 x58
          refine wp_iconst d_World_near_65 (v := nI 1) rfl ?_
          cases e52
          refine wp_goto 70 d_World_near_66 rfl ?_
          exact k50
        have k59 : ¬ x53 = true → wp X (d + 1) f_World_near (0, 0) 69 [.ref w, .int inch_, .int ((v12 + v25) + v38)] [.int ((v12 + v25) + v38)] (lay M) Q := by
          intro x60
          replace e52 := inn e52 x60
          refine wp_iconst d_World_near_69 (v := nI 0) rfl ?_
          cases e52
          exact k50
        refine wp_aload_n d_World_near_54 rfl rfl ?_
        refine wp_iload_n d_World_near_55 rfl rfl ?_
        refine wp_bipush d_World_near_56 (v := nI 10) rfl ?_
        refine wp_iadd d_World_near_58 ?_
        obtain ⟨v61, e62, e54⟩ := ob1_some e54
        refine wl_callV1 d_World_near_59 lc_World_isTaken lv_World_81 rfl (shW0 hw) rfl rfl ⟨rfl, rfl⟩ ⟨by decide, by decide⟩ ?_
        refine s_World_isTaken (d := d) hw e62 ?_
        refine wc_eq 69 d_World_near_62 rfl (fun h62 => ?_) (fun h62 => ?_)
        · cases e54
          exact k59 h62
        · cases e54
          exact k57 h62
      obtain ⟨x63, e64, e39⟩ := ob1_some e39
      have k67 : x63 = true → wp X (d + 1) f_World_near (0, 0) 46 [.ref w, .int inch_, .int (v12 + v25)] [.int (v12 + v25)] (lay M) Q := by
        intro x68
        replace e39 := ip e39 x68
        refine wp_iconst d_World_near_46 (v := nI 1) rfl ?_
        cases e39
        refine wp_goto 51 d_World_near_47 rfl ?_
        exact k37
      have k69 : ¬ x63 = true → wp X (d + 1) f_World_near (0, 0) 50 [.ref w, .int inch_, .int (v12 + v25)] [.int (v12 + v25)] (lay M) Q := by
        intro x70
        replace e39 := inn e39 x70
        refine wp_iconst d_World_near_50 (v := nI 0) rfl ?_
        cases e39
        exact k37
      refine wp_aload_n d_World_near_35 rfl rfl ?_
      refine wp_iload_n d_World_near_36 rfl rfl ?_
      refine wp_bipush d_World_near_37 (v := nI 10) rfl ?_
      refine wp_isub d_World_near_39 ?_
      obtain ⟨v71, e72, e64⟩ := ob1_some e64
      refine wl_callV1 d_World_near_40 lc_World_isTaken lv_World_81 rfl (shW0 hw) rfl rfl ⟨rfl, rfl⟩ ⟨by decide, by decide⟩ ?_
      refine s_World_isTaken (d := d) hw e72 ?_
      refine wc_eq 50 d_World_near_43 rfl (fun h43 => ?_) (fun h43 => ?_)
      · cases e64
        exact k69 h43
      · cases e64
        exact k67 h43
    obtain ⟨x73, e74, e26⟩ := ob1_some e26
    have k77 : x73 = true → wp X (d + 1) f_World_near (0, 0) 27 [.ref w, .int inch_, .int v12] [.int v12] (lay M) Q := by
      intro x78
      replace e26 := ip e26 x78
      refine wp_iconst d_World_near_27 (v := nI 1) rfl ?_
      cases e26
      refine wp_goto 32 d_World_near_28 rfl ?_
      exact k24
    have k79 : ¬ x73 = true → wp X (d + 1) f_World_near (0, 0) 31 [.ref w, .int inch_, .int v12] [.int v12] (lay M) Q := by
      intro x80
      replace e26 := inn e26 x80
      refine wp_iconst d_World_near_31 (v := nI 0) rfl ?_
      cases e26
      exact k24
    refine wp_aload_n d_World_near_17 rfl rfl ?_
    refine wp_iload_n d_World_near_18 rfl rfl ?_
    refine wp_iconst d_World_near_19 (v := nI 1) rfl ?_
    refine wp_iadd d_World_near_20 ?_
    obtain ⟨v81, e82, e74⟩ := ob1_some e74
    refine wl_callV1 d_World_near_21 lc_World_isTaken lv_World_81 rfl (shW0 hw) rfl rfl ⟨rfl, rfl⟩ ⟨by decide, by decide⟩ ?_
    refine s_World_isTaken (d := d) hw e82 ?_
    refine wc_eq 31 d_World_near_24 rfl (fun h24 => ?_) (fun h24 => ?_)
    · cases e74
      exact k79 h24
    · cases e74
      exact k77 h24
  obtain ⟨x83, e84, e13⟩ := ob1_some e13
  have k87 : ∀ u2 : Value, x83 = true → wp X (d + 1) f_World_near (0, 0) 10 [.ref w, .int inch_, u2] [] (lay M) Q := by
    intro u2 x88
    replace e13 := ip e13 x88
    refine wp_iconst d_World_near_10 (v := nI 1) rfl ?_
    cases e13
    refine wp_goto 15 d_World_near_11 rfl ?_
    exact k11 _
  have k89 : ∀ u2 : Value, ¬ x83 = true → wp X (d + 1) f_World_near (0, 0) 14 [.ref w, .int inch_, u2] [] (lay M) Q := by
    intro u2 x90
    replace e13 := inn e13 x90
    refine wp_iconst d_World_near_14 (v := nI 0) rfl ?_
    cases e13
    exact k11 _
  refine wp_aload_n d_World_near_0 rfl rfl ?_
  refine wp_iload_n d_World_near_1 rfl rfl ?_
  refine wp_iconst d_World_near_2 (v := nI 1) rfl ?_
  refine wp_isub d_World_near_3 ?_
  obtain ⟨v91, e92, e84⟩ := ob1_some e84
  refine wl_callV1 d_World_near_4 lc_World_isTaken lv_World_81 rfl (shW0 hw) rfl rfl ⟨rfl, rfl⟩ ⟨by decide, by decide⟩ ?_
  refine s_World_isTaken (d := d) hw e92 ?_
  refine wc_eq 14 d_World_near_7 rfl (fun h7 => ?_) (fun h7 => ?_)
  · cases e84
    exact k89 _ h7
  · cases e84
    exact k87 _ h7
def F_Law_variable (word_ : Int32) (w_world : Nat) (c_t : Nat) (M : mM) : Option (Int32) :=
  if word_ = nI 7 then
  some (M c_t 1)
  else
  if word_ = nI 8 then
  some (M c_t 2)
  else
  if word_ = nI 9 then
  some (M c_t 3)
  else
  if word_ = nI 10 then
  some (M c_t 4)
  else
  if word_ = nI 11 then
  ob1 (ra M (w_world + 1) 60 (M c_t 4)) fun v2 =>
  some (v2)
  else
  if word_ = nI 12 then
  some (M c_t 5)
  else
  if word_ = nI 13 then
  some (M c_t 6)
  else
  if word_ = nI 14 then
  some (M w_world 7)
  else
  if word_ = nI 15 then
  some (M w_world 8)
  else
  if word_ = nI 16 then
  ob1 (F_World_near w_world (M c_t 4) M) fun v3 =>
  some (v3)
  else
  some (M w_world 12)
theorem s_Law_variable {word_ : Int32} {w_world : Nat} {c_t : Nat} {M : mM} {r : Int32} (hw_world : isW w_world) (hc_t : isTh c_t = true) (h : F_Law_variable word_ w_world c_t M = some r) (hq : Q (some (.int r)) (lay M)) : Sp X (d + 2) f_Law_variable [.int word_, .ref w_world, .ref c_t] (lay M) Q := by
  refine Sp_of (by decide) rfl (Nat.le_of_ble_eq_true rfl) ?_
  refine wp_iload_n d_Law_variable_0 rfl rfl ?_
  by_cases h1_7 : word_ = nI 7
  · replace h := ip h h1_7
    refine wt_in 56 (k := 7) (off := 55) (by decide) h1_7 d_Law_variable_1 (by decide) (by decide) (by decide) (by decide) ?_
    refine wp_aload_n d_Law_variable_56 rfl rfl ?_
    refine wl_getI d_Law_variable_57 lf_Law_93 (shTh hc_t) rfl rfl ?_
    cases h
    exact wp_iret d_Law_variable_60 rfl rfl rfl hq
  · replace h := inn h h1_7
    by_cases h1_8 : word_ = nI 8
    · replace h := ip h h1_8
      refine wt_in 61 (k := 8) (off := 60) (by decide) h1_8 d_Law_variable_1 (by decide) (by decide) (by decide) (by decide) ?_
      refine wp_aload_n d_Law_variable_61 rfl rfl ?_
      refine wl_getI d_Law_variable_62 lf_Law_96 (shTh hc_t) rfl rfl ?_
      cases h
      exact wp_iret d_Law_variable_65 rfl rfl rfl hq
    · replace h := inn h h1_8
      by_cases h1_9 : word_ = nI 9
      · replace h := ip h h1_9
        refine wt_in 66 (k := 9) (off := 65) (by decide) h1_9 d_Law_variable_1 (by decide) (by decide) (by decide) (by decide) ?_
        refine wp_aload_n d_Law_variable_66 rfl rfl ?_
        refine wl_getI d_Law_variable_67 lf_Law_77 (shTh hc_t) rfl rfl ?_
        cases h
        exact wp_iret d_Law_variable_70 rfl rfl rfl hq
      · replace h := inn h h1_9
        by_cases h1_10 : word_ = nI 10
        · replace h := ip h h1_10
          refine wt_in 71 (k := 10) (off := 70) (by decide) h1_10 d_Law_variable_1 (by decide) (by decide) (by decide) (by decide) ?_
          refine wp_aload_n d_Law_variable_71 rfl rfl ?_
          refine wl_getI d_Law_variable_72 lf_Law_69 (shTh hc_t) rfl rfl ?_
          cases h
          exact wp_iret d_Law_variable_75 rfl rfl rfl hq
        · replace h := inn h h1_10
          by_cases h1_11 : word_ = nI 11
          · replace h := ip h h1_11
            refine wt_in 76 (k := 11) (off := 75) (by decide) h1_11 d_Law_variable_1 (by decide) (by decide) (by decide) (by decide) ?_
            refine wp_aload_n d_Law_variable_76 rfl rfl ?_
            refine wl_getR d_Law_variable_77 lf_Law_64 (shW0 hw_world) rfl ?_
            refine wp_aload_n d_Law_variable_80 rfl rfl ?_
            refine wl_getI d_Law_variable_81 lf_Law_69 (shTh hc_t) rfl rfl ?_
            obtain ⟨v2, e1, h⟩ := ob1_some h
            refine wa_ald d_Law_variable_84 (shW1 hw_world) e1 ?_
            cases h
            exact wp_iret d_Law_variable_85 rfl rfl rfl hq
          · replace h := inn h h1_11
            by_cases h1_12 : word_ = nI 12
            · replace h := ip h h1_12
              refine wt_in 86 (k := 12) (off := 85) (by decide) h1_12 d_Law_variable_1 (by decide) (by decide) (by decide) (by decide) ?_
              refine wp_aload_n d_Law_variable_86 rfl rfl ?_
              refine wl_getI d_Law_variable_87 lf_Law_97 (shTh hc_t) rfl rfl ?_
              cases h
              exact wp_iret d_Law_variable_90 rfl rfl rfl hq
            · replace h := inn h h1_12
              by_cases h1_13 : word_ = nI 13
              · replace h := ip h h1_13
                refine wt_in 91 (k := 13) (off := 90) (by decide) h1_13 d_Law_variable_1 (by decide) (by decide) (by decide) (by decide) ?_
                refine wp_aload_n d_Law_variable_91 rfl rfl ?_
                refine wl_getI d_Law_variable_92 lf_Law_100 (shTh hc_t) rfl rfl ?_
                cases h
                exact wp_iret d_Law_variable_95 rfl rfl rfl hq
              · replace h := inn h h1_13
                by_cases h1_14 : word_ = nI 14
                · replace h := ip h h1_14
                  refine wt_in 96 (k := 14) (off := 95) (by decide) h1_14 d_Law_variable_1 (by decide) (by decide) (by decide) (by decide) ?_
                  refine wp_aload_n d_Law_variable_96 rfl rfl ?_
                  refine wl_getI d_Law_variable_97 lf_Law_74 (shW0 hw_world) rfl rfl ?_
                  cases h
                  exact wp_iret d_Law_variable_100 rfl rfl rfl hq
                · replace h := inn h h1_14
                  by_cases h1_15 : word_ = nI 15
                  · replace h := ip h h1_15
                    refine wt_in 101 (k := 15) (off := 100) (by decide) h1_15 d_Law_variable_1 (by decide) (by decide) (by decide) (by decide) ?_
                    refine wp_aload_n d_Law_variable_101 rfl rfl ?_
                    refine wl_getI d_Law_variable_102 lf_Law_80 (shW0 hw_world) rfl rfl ?_
                    cases h
                    exact wp_iret d_Law_variable_105 rfl rfl rfl hq
                  · replace h := inn h h1_15
                    by_cases h1_16 : word_ = nI 16
                    · replace h := ip h h1_16
                      refine wt_in 106 (k := 16) (off := 105) (by decide) h1_16 d_Law_variable_1 (by decide) (by decide) (by decide) (by decide) ?_
                      refine wp_aload_n d_Law_variable_106 rfl rfl ?_
                      refine wp_aload_n d_Law_variable_107 rfl rfl ?_
                      refine wl_getI d_Law_variable_108 lf_Law_69 (shTh hc_t) rfl rfl ?_
                      obtain ⟨v3, e4, h⟩ := ob1_some h
                      refine wl_callV1 d_Law_variable_111 lc_World_near lv_Law_103 rfl (shW0 hw_world) rfl rfl ⟨rfl, rfl⟩ ⟨by decide, by decide⟩ ?_
                      refine s_World_near (d := d) hw_world e4 ?_
                      cases h
                      exact wp_iret d_Law_variable_114 rfl rfl rfl hq
                    · replace h := inn h h1_16
                      refine wt_out 115 d_Law_variable_1 (by decide) (fun y6 y51 y52 y5 => ?_) rfl ?_
                      · have y53 : y6 = 7 ∨ y6 = 8 ∨ y6 = 9 ∨ y6 = 10 ∨ y6 = 11 ∨ y6 = 12 ∨ y6 = 13 ∨ y6 = 14 ∨ y6 = 15 ∨ y6 = 16 := by omega
                        rcases y53 with rfl | rfl | rfl | rfl | rfl | rfl | rfl | rfl | rfl | rfl
                        · exact h1_7 y5
                        · exact h1_8 y5
                        · exact h1_9 y5
                        · exact h1_10 y5
                        · exact h1_11 y5
                        · exact h1_12 y5
                        · exact h1_13 y5
                        · exact h1_14 y5
                        · exact h1_15 y5
                        · exact h1_16 y5
                      · refine wp_aload_n d_Law_variable_115 rfl rfl ?_
                        refine wl_getI d_Law_variable_116 lf_Law_107 (shW0 hw_world) rfl rfl ?_
                        cases h
                        exact wp_iret d_Law_variable_119 rfl rfl rfl hq
def L_Law_value_1 (z : Nat) (l : Nat) (w_world : Nat) (c_t : Nat) (to_ : Int32) (kt : Int32 → mM → Option (Int32 × mM)) : Nat → Int32 → Int32 → mM → Option (Int32 × mM)
  | 0, _, _, _ => none
  | n + 1, top_, i_, M =>
    if (i_ < to_ ∧ i_ < (M l 2)) then
    ob1 (ra M (l + 3) 400 i_) fun v4 =>
    jn (fun (top_47 : Int32) (M48 : mM) =>
    L_Law_value_1 z l w_world c_t to_ kt n top_47 (i_ + nI 1) M48) fun kj49 =>
    if v4 < (nI 11000) then
    if ¬ (top_ < (nI 64)) then
    some (nI 0, M)
    else
    ob1 (if v4 < (nI 10000) then
    some (v4)
    else
    ob1 (F_Law_variable (v4 - (nI 10000)) w_world c_t M) fun v71 =>
    some (v71)) fun v67 =>
    ob1 (wa M (l + 4) 64 top_ v67) fun M70 =>
    kj49 (top_ + nI 1) M70
    else
    if (¬ (v4 < (nI 20000)) ∨ v4 = (nI 11008)) then
    if top_ < (nI 1) then
    some (nI 0, M)
    else
    ob1 (ra M (l + 4) 64 (top_ - (nI 1))) fun v53 =>
    ob1 (F_Law_changed v4 v53) fun v54 =>
    ob1 (wa M (l + 4) 64 (top_ - (nI 1)) v54) fun M57 =>
    kj49 top_ M57
    else
    if top_ < (nI 2) then
    some (nI 0, M)
    else
    ob1 (ra M (l + 4) 64 ((top_ + (-1)) - (nI 1))) fun v59 =>
    ob1 (ra M (l + 4) 64 (top_ + (-1))) fun v61 =>
    ob1 (wa M (l + 4) 64 ((top_ + (-1)) - (nI 1)) (F_Law_joined v4 v59 v61)) fun M63 =>
    kj49 (top_ + (-1)) M63
    else
    kt top_ M
def F_Law_value (z : Nat) (l : Nat) (from_ : Int32) (to_ : Int32) (w_world : Nat) (c_t : Nat) (M : mM) : Option (Int32 × mM) :=
  L_Law_value_1 z l w_world c_t to_ (fun (top_73 : Int32) (M74 : mM) =>
  ob1 (if top_73 < (nI 1) then
  some (nI 0)
  else
  ob1 (ra M74 (l + 4) 64 (nI 0)) fun v81 =>
  some (v81)) fun v78 =>
  some (v78, M74)) z (nI 0) (F_Math_max (nI 0) from_) M
theorem l_Law_value_1 {l : Nat} {w_world : Nat} {c_t : Nat} {to_ : Int32} {kt : Int32 → mM → Option (Int32 × mM)}  {q1 : Value} {r : Int32} {M' : mM} (hl : isL l) (hw_world : isW w_world) (hc_t : isTh c_t = true) (hq : Q (some (.int r)) (lay M')) (K : ∀ (top_r : Int32) (N1 : mM) (u6 u7 : Value), kt top_r N1 = some (r, M') → wp X (d + 3) f_Law_value (0, 0) 186 [.ref l, q1, .int to_, .ref w_world, .ref c_t, .int top_r, u6, u7] [] (lay N1) Q) : ∀ (n : Nat) (top_ : Int32) (i_ : Int32) (M : mM) (u7 : Value), L_Law_value_1 z l w_world c_t to_ kt n top_ i_ M = some (r, M') → wp X (d + 3) f_Law_value (0, 0) 10 [.ref l, q1, .int to_, .ref w_world, .ref c_t, .int top_, .int i_, u7] [] (lay M) Q := by
  intro n
  induction n with
  | zero => intro top_ i_ M u7 h; exact nn h
  | succ n ih =>
    intro top_ i_ M u7 h
    have k1 : ∀ u7 : Value, ¬ (i_ < to_ ∧ i_ < (M l 2)) → wp X (d + 3) f_Law_value (0, 0) 186 [.ref l, q1, .int to_, .ref w_world, .ref c_t, .int top_, .int i_, u7] [] (lay M) Q := by
      intro u7 x2
      replace h := inn h x2
      exact K _ _ _ _ h
    refine wp_iload d_Law_value_10 rfl ?_
    refine wp_iload_n d_Law_value_12 rfl rfl ?_
    refine wq_icmp_ge 186 d_Law_value_13 rfl (fun h13 => ?_) (fun h13 => ?_)
    · exact k1 _ (fun z => h13 z.1)
    · refine wp_iload d_Law_value_16 rfl ?_
      refine wp_aload_n d_Law_value_18 rfl rfl ?_
      refine wl_getI d_Law_value_19 lf_Law_24 (shL0 hl) rfl rfl ?_
      refine wq_icmp_ge 186 d_Law_value_22 rfl (fun h22 => ?_) (fun h22 => ?_)
      · exact k1 _ (fun z => h22 z.2)
      · replace h := ip h ⟨h13, h22⟩
        refine wp_aload_n d_Law_value_25 rfl rfl ?_
        refine wl_getR d_Law_value_26 lf_Law_20 (shL0 hl) rfl ?_
        refine wp_iload d_Law_value_29 rfl ?_
        obtain ⟨v4, e3, h⟩ := ob1_some h
        refine wa_ald d_Law_value_31 (shL3 hl) e3 ?_
        refine wp_istore d_Law_value_32 (by decide) ?_
        have k46 : ∀ (top_47 : Int32) (M48 : mM), (fun (top_47 : Int32) (M48 : mM) =>
              L_Law_value_1 z l w_world c_t to_ kt n top_47 (i_ + nI 1) M48) top_47 M48 = some (r, M') → wp X (d + 3) f_Law_value (0, 0) 180 [.ref l, q1, .int to_, .ref w_world, .ref c_t, .int top_47, .int i_, .int v4] [] (lay M48) Q := by
          intro top_47 M48 h
          refine wp_iinc d_Law_value_180 (v := i_ + nI 1) rfl rfl ?_
          refine wp_goto 10 d_Law_value_183 rfl ?_
          exact ih _ _ _ _ h
        refine wp_iload d_Law_value_34 rfl ?_
        refine wp_sipush d_Law_value_36 (v := nI 11000) rfl ?_
        refine wq_icmp_ge 89 d_Law_value_39 rfl (fun h39 => ?_) (fun h39 => ?_)
        · replace h := inn h h39
          have k50 : (¬ (v4 < (nI 20000)) ∨ v4 = (nI 11008)) → wp X (d + 3) f_Law_value (0, 0) 105 [.ref l, q1, .int to_, .ref w_world, .ref c_t, .int top_, .int i_, .int v4] [] (lay M) Q := by
            intro x51
            replace h := ip h x51
            refine wp_iload d_Law_value_105 rfl ?_
            refine wp_iconst d_Law_value_107 (v := nI 1) rfl ?_
            refine wq_icmp_ge 113 d_Law_value_108 rfl (fun h108 => ?_) (fun h108 => ?_)
            · replace h := inn h h108
              refine wp_aload_n d_Law_value_113 rfl rfl ?_
              refine wl_getR d_Law_value_114 lf_Law_28 (shL0 hl) rfl ?_
              refine wp_iload d_Law_value_117 rfl ?_
              refine wp_iconst d_Law_value_119 (v := nI 1) rfl ?_
              refine wp_isub d_Law_value_120 ?_
              refine wp_iload d_Law_value_121 rfl ?_
              refine wp_aload_n d_Law_value_123 rfl rfl ?_
              refine wl_getR d_Law_value_124 lf_Law_28 (shL0 hl) rfl ?_
              refine wp_iload d_Law_value_127 rfl ?_
              refine wp_iconst d_Law_value_129 (v := nI 1) rfl ?_
              refine wp_isub d_Law_value_130 ?_
              obtain ⟨v53, e52, h⟩ := ob1_some h
              refine wa_ald d_Law_value_131 (shL4 hl) e52 ?_
              obtain ⟨v54, e55, h⟩ := ob1_some h
              refine wl_callS2 d_Law_value_132 lc_Law_changed ls_Law_86 rfl ⟨rfl, rfl⟩ ⟨by decide, by decide⟩ ?_
              refine s_Law_changed (d := d + 2) e55 ?_
              obtain ⟨M57, e56, h⟩ := ob1_some h
              refine wa_ast d_Law_value_135 (shL4 hl) e56 ?_
              refine wp_goto 180 d_Law_value_136 rfl ?_
              exact k46 _ _ h
            · replace h := ip h h108
              refine wp_iconst d_Law_value_111 (v := nI 0) rfl ?_
              cases h
              exact wp_iret d_Law_value_112 rfl rfl rfl hq
          refine wp_iload d_Law_value_89 rfl ?_
          refine wp_sipush d_Law_value_91 (v := nI 20000) rfl ?_
          refine wq_icmp_ge 105 d_Law_value_94 rfl (fun h94 => ?_) (fun h94 => ?_)
          · exact k50 (Or.inl h94)
          · refine wp_iload d_Law_value_97 rfl ?_
            refine wp_sipush d_Law_value_99 (v := nI 11008) rfl ?_
            refine wq_icmp_ne 139 d_Law_value_102 rfl (fun h102 => ?_) (fun h102 => ?_)
            · replace h := inn h (fun z => z.elim (fun z => z h94) h102)
              refine wp_iload d_Law_value_139 rfl ?_
              refine wp_iconst d_Law_value_141 (v := nI 2) rfl ?_
              refine wq_icmp_ge 147 d_Law_value_142 rfl (fun h142 => ?_) (fun h142 => ?_)
              · replace h := inn h h142
                refine wp_iinc d_Law_value_147 (v := top_ + (-1)) rfl rfl ?_
                refine wp_aload_n d_Law_value_150 rfl rfl ?_
                refine wl_getR d_Law_value_151 lf_Law_28 (shL0 hl) rfl ?_
                refine wp_iload d_Law_value_154 rfl ?_
                refine wp_iconst d_Law_value_156 (v := nI 1) rfl ?_
                refine wp_isub d_Law_value_157 ?_
                refine wp_iload d_Law_value_158 rfl ?_
                refine wp_aload_n d_Law_value_160 rfl rfl ?_
                refine wl_getR d_Law_value_161 lf_Law_28 (shL0 hl) rfl ?_
                refine wp_iload d_Law_value_164 rfl ?_
                refine wp_iconst d_Law_value_166 (v := nI 1) rfl ?_
                refine wp_isub d_Law_value_167 ?_
                obtain ⟨v59, e58, h⟩ := ob1_some h
                refine wa_ald d_Law_value_168 (shL4 hl) e58 ?_
                refine wp_aload_n d_Law_value_169 rfl rfl ?_
                refine wl_getR d_Law_value_170 lf_Law_28 (shL0 hl) rfl ?_
                refine wp_iload d_Law_value_173 rfl ?_
                obtain ⟨v61, e60, h⟩ := ob1_some h
                refine wa_ald d_Law_value_175 (shL4 hl) e60 ?_
                refine wl_callS3 d_Law_value_176 lc_Law_joined ls_Law_89 rfl ⟨rfl, rfl⟩ ⟨by decide, by decide⟩ ?_
                refine s_Law_joined (d := d + 2) rfl ?_
                obtain ⟨M63, e62, h⟩ := ob1_some h
                refine wa_ast d_Law_value_179 (shL4 hl) e62 ?_
                exact k46 _ _ h
              · replace h := ip h h142
                refine wp_iconst d_Law_value_145 (v := nI 0) rfl ?_
                cases h
                exact wp_iret d_Law_value_146 rfl rfl rfl hq
            · exact k50 (Or.inr h102)
        · replace h := ip h h39
          refine wp_iload d_Law_value_42 rfl ?_
          refine wp_bipush d_Law_value_44 (v := nI 64) rfl ?_
          refine wq_icmp_lt 51 d_Law_value_46 rfl (fun h46 => ?_) (fun h46 => ?_)
          · replace h := inn h (fun z => z h46)
            refine wp_aload_n d_Law_value_51 rfl rfl ?_
            refine wl_getR d_Law_value_52 lf_Law_28 (shL0 hl) rfl ?_
            refine wp_iload d_Law_value_55 rfl ?_
            obtain ⟨v67, e68, h⟩ := ob1_some h
            have k66 : wp X (d + 3) f_Law_value (0, 0) 82 [.ref l, q1, .int to_, .ref w_world, .ref c_t, .int top_, .int i_, .int v4] [.int v67, .int top_, .ref (l + 4)] (lay M) Q := by
              obtain ⟨M70, e69, h⟩ := ob1_some h
              refine wa_ast d_Law_value_82 (shL4 hl) e69 ?_
              refine wp_iinc d_Law_value_83 (v := top_ + nI 1) rfl rfl ?_
              refine wp_goto 180 d_Law_value_86 rfl ?_
              exact k46 _ _ h
            refine wp_iload d_Law_value_57 rfl ?_
            refine wp_sipush d_Law_value_59 (v := nI 10000) rfl ?_
            refine wq_icmp_ge 70 d_Law_value_62 rfl (fun h62 => ?_) (fun h62 => ?_)
            · replace e68 := inn e68 h62
              refine wp_iload d_Law_value_70 rfl ?_
              refine wp_sipush d_Law_value_72 (v := nI 10000) rfl ?_
              refine wp_isub d_Law_value_75 ?_
              refine wp_aload_n d_Law_value_76 rfl rfl ?_
              refine wp_aload d_Law_value_77 rfl ?_
              obtain ⟨v71, e72, e68⟩ := ob1_some e68
              refine wl_callS3 d_Law_value_79 lc_Law_variable ls_Law_83 rfl ⟨rfl, rfl⟩ ⟨by decide, by decide⟩ ?_
              refine s_Law_variable (d := d) hw_world hc_t e72 ?_
              cases e68
              exact k66
            · replace e68 := ip e68 h62
              refine wp_iload d_Law_value_65 rfl ?_
              cases e68
              refine wp_goto 82 d_Law_value_67 rfl ?_
              exact k66
          · replace h := ip h h46
            refine wp_iconst d_Law_value_49 (v := nI 0) rfl ?_
            cases h
            exact wp_iret d_Law_value_50 rfl rfl rfl hq
theorem s_Law_value {l : Nat} {from_ : Int32} {to_ : Int32} {w_world : Nat} {c_t : Nat} {M : mM} {r : Int32} {M' : mM} (hl : isL l) (hw_world : isW w_world) (hc_t : isTh c_t = true) (h : F_Law_value z l from_ to_ w_world c_t M = some (r, M')) (hq : Q (some (.int r)) (lay M')) : Sp X (d + 3) f_Law_value [.ref l, .int from_, .int to_, .ref w_world, .ref c_t] (lay M) Q := by
  refine Sp_of (by decide) rfl (Nat.le_of_ble_eq_true rfl) ?_
  refine wp_iconst d_Law_value_0 (v := nI 0) rfl ?_
  refine wp_istore d_Law_value_1 (by decide) ?_
  refine wp_iconst d_Law_value_3 (v := nI 0) rfl ?_
  refine wp_iload_n d_Law_value_4 rfl rfl ?_
  refine wl_mmax d_Law_value_5 ls_Law_61 rfl ⟨by decide, by decide⟩ ?_
  refine wp_istore d_Law_value_8 (by decide) ?_
  refine l_Law_value_1 hl hw_world hc_t hq ?_ _ _ _ _ _ h
  intro top_73 M74 u6 u7 h
  obtain ⟨v78, e79, h⟩ := ob1_some h
  have k77 : ∀ u6 u7 : Value, wp X (d + 3) f_Law_value (0, 0) 202 [.ref l, .int from_, .int to_, .ref w_world, .ref c_t, .int top_73, u6, u7] [.int v78] (lay M74) Q := by
    intro u6 u7
    cases h
    exact wp_iret d_Law_value_202 rfl rfl rfl hq
  refine wp_iload d_Law_value_186 rfl ?_
  refine wp_iconst d_Law_value_188 (v := nI 1) rfl ?_
  refine wq_icmp_ge 196 d_Law_value_189 rfl (fun h189 => ?_) (fun h189 => ?_)
  · replace e79 := inn e79 h189
    refine wp_aload_n d_Law_value_196 rfl rfl ?_
    refine wl_getR d_Law_value_197 lf_Law_28 (shL0 hl) rfl ?_
    refine wp_iconst d_Law_value_200 (v := nI 0) rfl ?_
    obtain ⟨v81, e80, e79⟩ := ob1_some e79
    refine wa_ald d_Law_value_201 (shL4 hl) e80 ?_
    cases e79
    exact k77 _ _
  · replace e79 := ip e79 h189
    refine wp_iconst d_Law_value_192 (v := nI 0) rfl ?_
    cases e79
    refine wp_goto 202 d_Law_value_193 rfl ?_
    exact k77 _ _
def L_Law_tells_1 (z : Nat) (l : Nat) (w_world : Nat) (c_t : Nat) (word_ : Int32) : Nat → Int32 → Int32 → mM → Option (Int32 × mM)
  | 0, _, _, _ => none
  | n + 1, told_, i_, M =>
    if i_ < (M (l + 1) 3) then
    ob1 (F_Rows_get (l + 1) 5 16 i_ (nI 2) M) fun v3 =>
    ob1 (F_Rows_get (l + 1) 5 16 i_ (nI 3) M) fun v5 =>
    ob1 (ob1 (F_Rows_get (l + 1) 5 16 i_ (nI 0) M) fun v30 =>
    some (decide (v30 = word_))) fun x10 =>
    ob2 (if x10 = true then if v3 = v5 then some (true, M)
    else ob2 (F_Law_value z l v3 v5 w_world c_t M) fun v27 M28 =>
    some (decide (¬ (v27 = (nI 0))), M28)
    else some (false, M)) fun x12 M14 =>
    if x12 = true then
    ob1 (F_Rows_get (l + 1) 5 16 i_ (nI 1) M14) fun v20 =>
    ob2 (F_Law_value z l v20 v3 w_world c_t M14) fun v22 M23 =>
    some (v22, M23)
    else
    L_Law_tells_1 z l w_world c_t word_ n told_ (i_ + nI 1) M14
    else
    some (told_, M)
def F_Law_tells (z : Nat) (l : Nat) (word_ : Int32) (w_world : Nat) (c_t : Nat) (M : mM) : Option (Int32 × mM) :=
  ob1 (F_Law_usual l word_ w_world c_t M) fun v1 =>
  ob2 (L_Law_tells_1 z l w_world c_t word_ z v1 (nI 0) M) fun told_32 M33 =>
  some (F_Math_max (nI 0) (F_Math_min told_32 (if word_ = (nI 2) then nI 9 else nI 1000)), M33)
theorem l_Law_tells_1 {l : Nat} {w_world : Nat} {c_t : Nat} {word_ : Int32}  {told_r : Int32} {N' : mM} (hl : isL l) (hw_world : isW w_world) (hc_t : isTh c_t = true) (K : ∀ u5 u6 u7 u8 : Value, wp X (d + 4) f_Law_tells (0, 0) 123 [.ref l, .int word_, .ref w_world, .ref c_t, .int told_r, u5, u6, u7, u8] [] (lay N') Q) : ∀ (n : Nat) (told_ : Int32) (i_ : Int32) (M : mM) (u6 u7 u8 : Value), L_Law_tells_1 z l w_world c_t word_ n told_ i_ M = some (told_r, N') → wp X (d + 4) f_Law_tells (0, 0) 12 [.ref l, .int word_, .ref w_world, .ref c_t, .int told_, .int i_, u6, u7, u8] [] (lay M) Q := by
  intro n
  induction n with
  | zero => intro told_ i_ M u6 u7 u8 h; exact nn h
  | succ n ih =>
    intro told_ i_ M u6 u7 u8 h
    refine wp_iload d_Law_tells_12 rfl ?_
    refine wp_aload_n d_Law_tells_14 rfl rfl ?_
    refine wl_getR d_Law_tells_15 lf_Law_14 (shL0 hl) rfl ?_
    refine wl_getI d_Law_tells_18 lf_Law_51 (isR0 (isR_lines hl)) rfl rfl ?_
    refine wq_icmp_ge 123 d_Law_tells_21 rfl (fun h21 => ?_) (fun h21 => ?_)
    · replace h := inn h h21
      cases h
      exact K _ _ _ _
    · replace h := ip h h21
      refine wp_aload_n d_Law_tells_24 rfl rfl ?_
      refine wl_getR d_Law_tells_25 lf_Law_14 (shL0 hl) rfl ?_
      refine wp_iload d_Law_tells_28 rfl ?_
      refine wp_iconst d_Law_tells_30 (v := nI 2) rfl ?_
      obtain ⟨v3, e4, h⟩ := ob1_some h
      refine wl_callV2 d_Law_tells_31 lc_Rows_get lv_Law_54 rfl (isR0 (isR_lines hl)) rfl rfl ⟨rfl, rfl⟩ ⟨by decide, by decide⟩ ?_
      refine s_Rows_get (d := d + 3) (isR_lines hl) e4 ?_
      refine wp_istore d_Law_tells_34 (by decide) ?_
      refine wp_aload_n d_Law_tells_36 rfl rfl ?_
      refine wl_getR d_Law_tells_37 lf_Law_14 (shL0 hl) rfl ?_
      refine wp_iload d_Law_tells_40 rfl ?_
      refine wp_iconst d_Law_tells_42 (v := nI 3) rfl ?_
      obtain ⟨v5, e6, h⟩ := ob1_some h
      refine wl_callV2 d_Law_tells_43 lc_Rows_get lv_Law_54 rfl (isR0 (isR_lines hl)) rfl rfl ⟨rfl, rfl⟩ ⟨by decide, by decide⟩ ?_
      refine s_Rows_get (d := d + 3) (isR_lines hl) e6 ?_
      refine wp_istore d_Law_tells_46 (by decide) ?_
      obtain ⟨x10, e11, h⟩ := ob1_some h
      have k9 : ∀ u8 : Value, wp X (d + 4) f_Law_tells (0, 0) 67 [.ref l, .int word_, .ref w_world, .ref c_t, .int told_, .int i_, .int v3, .int v5, u8] [.int (bI x10)] (lay M) Q := by
        intro u8
        refine wp_istore d_Law_tells_67 (by decide) ?_
        obtain ⟨x12, M14, e13, h⟩ := ob2_some h
        have k18 : x12 = true → wp X (d + 4) f_Law_tells (0, 0) 94 [.ref l, .int word_, .ref w_world, .ref c_t, .int told_, .int i_, .int v3, .int v5, .int (bI x10)] [] (lay M14) Q := by
          intro x19
          replace h := ip h x19
          refine wp_aload_n d_Law_tells_94 rfl rfl ?_
          refine wp_aload_n d_Law_tells_95 rfl rfl ?_
          refine wl_getR d_Law_tells_96 lf_Law_14 (shL0 hl) rfl ?_
          refine wp_iload d_Law_tells_99 rfl ?_
          refine wp_iconst d_Law_tells_101 (v := nI 1) rfl ?_
          obtain ⟨v20, e21, h⟩ := ob1_some h
          refine wl_callV2 d_Law_tells_102 lc_Rows_get lv_Law_54 rfl (isR0 (isR_lines hl)) rfl rfl ⟨rfl, rfl⟩ ⟨by decide, by decide⟩ ?_
          refine s_Rows_get (d := d + 3) (isR_lines hl) e21 ?_
          refine wp_iload d_Law_tells_105 rfl ?_
          refine wp_aload_n d_Law_tells_107 rfl rfl ?_
          refine wp_aload_n d_Law_tells_108 rfl rfl ?_
          obtain ⟨v22, M23, e24, h⟩ := ob2_some h
          refine wl_callV4 d_Law_tells_109 lc_Law_value lv_Law_57 rfl (shL0 hl) rfl rfl ⟨rfl, rfl⟩ ⟨by decide, by decide⟩ ?_
          refine s_Law_value (d := d) hl hw_world hc_t e24 ?_
          refine wp_istore d_Law_tells_112 (by decide) ?_
          cases h
          refine wp_goto 123 d_Law_tells_114 rfl ?_
          exact K _ _ _ _
        have k25 : ¬ x12 = true → wp X (d + 4) f_Law_tells (0, 0) 117 [.ref l, .int word_, .ref w_world, .ref c_t, .int told_, .int i_, .int v3, .int v5, .int (bI x10)] [] (lay M14) Q := by
          intro x26
          replace h := inn h x26
          refine wp_iinc d_Law_tells_117 (v := i_ + nI 1) rfl rfl ?_
          refine wp_goto 12 d_Law_tells_120 rfl ?_
          exact ih _ _ _ _ _ _ h
        refine wp_iload d_Law_tells_69 rfl ?_
        refine wc_eq 117 d_Law_tells_71 rfl (fun h71 => ?_) (fun h71 => ?_)
        · replace e13 := inn e13 h71
          cases e13
          exact k25 (fun z => Bool.noConfusion z)
        · replace e13 := ip e13 h71
          refine wp_iload d_Law_tells_74 rfl ?_
          refine wp_iload d_Law_tells_76 rfl ?_
          refine wq_icmp_eq 94 d_Law_tells_78 rfl (fun h78 => ?_) (fun h78 => ?_)
          · replace e13 := ip e13 h78
            cases e13
            exact k18 rfl
          · replace e13 := inn e13 h78
            refine wp_aload_n d_Law_tells_81 rfl rfl ?_
            refine wp_iload d_Law_tells_82 rfl ?_
            refine wp_iload d_Law_tells_84 rfl ?_
            refine wp_aload_n d_Law_tells_86 rfl rfl ?_
            refine wp_aload_n d_Law_tells_87 rfl rfl ?_
            obtain ⟨v27, M28, e29, e13⟩ := ob2_some e13
            refine wl_callV4 d_Law_tells_88 lc_Law_value lv_Law_57 rfl (shL0 hl) rfl rfl ⟨rfl, rfl⟩ ⟨by decide, by decide⟩ ?_
            refine s_Law_value (d := d) hl hw_world hc_t e29 ?_
            refine wz_eq 117 d_Law_tells_91 rfl (fun h91 => ?_) (fun h91 => ?_)
            · cases e13
              exact k25 (fun z => (fun z => z h91) (of_decide_eq_true z))
            · cases e13
              exact k18 (decide_eq_true h91)
      refine wp_aload_n d_Law_tells_48 rfl rfl ?_
      refine wl_getR d_Law_tells_49 lf_Law_14 (shL0 hl) rfl ?_
      refine wp_iload d_Law_tells_52 rfl ?_
      refine wp_iconst d_Law_tells_54 (v := nI 0) rfl ?_
      obtain ⟨v30, e31, e11⟩ := ob1_some e11
      refine wl_callV2 d_Law_tells_55 lc_Rows_get lv_Law_54 rfl (isR0 (isR_lines hl)) rfl rfl ⟨rfl, rfl⟩ ⟨by decide, by decide⟩ ?_
      refine s_Rows_get (d := d + 3) (isR_lines hl) e31 ?_
      refine wp_iload_n d_Law_tells_58 rfl rfl ?_
      refine wq_icmp_ne 66 d_Law_tells_59 rfl (fun h59 => ?_) (fun h59 => ?_)
      · cases e11
        refine wp_iconst d_Law_tells_66 (v := nI 0) rfl ?_
        exact wj_b0 (fun z => h59 (of_decide_eq_true z)) (k9 _)
      · cases e11
        refine wp_iconst d_Law_tells_62 (v := nI 1) rfl ?_
        refine wp_goto 67 d_Law_tells_63 rfl ?_
        exact wj_b1 (decide_eq_true h59) (k9 _)
theorem s_Law_tells {l : Nat} {word_ : Int32} {w_world : Nat} {c_t : Nat} {M : mM} {r : Int32} {M' : mM} (hl : isL l) (hw_world : isW w_world) (hc_t : isTh c_t = true) (h : F_Law_tells z l word_ w_world c_t M = some (r, M')) (hq : Q (some (.int r)) (lay M')) : Sp X (d + 4) f_Law_tells [.ref l, .int word_, .ref w_world, .ref c_t] (lay M) Q := by
  refine Sp_of (by decide) rfl (Nat.le_of_ble_eq_true rfl) ?_
  refine wp_aload_n d_Law_tells_0 rfl rfl ?_
  refine wp_iload_n d_Law_tells_1 rfl rfl ?_
  refine wp_aload_n d_Law_tells_2 rfl rfl ?_
  refine wp_aload_n d_Law_tells_3 rfl rfl ?_
  obtain ⟨v1, e2, h⟩ := ob1_some h
  refine wl_callV3 d_Law_tells_4 lc_Law_usual lv_Law_47 rfl (shL0 hl) rfl rfl ⟨rfl, rfl⟩ ⟨by decide, by decide⟩ ?_
  refine s_Law_usual (d := d + 3) hl hw_world hc_t e2 ?_
  refine wp_istore d_Law_tells_7 (by decide) ?_
  refine wp_iconst d_Law_tells_9 (v := nI 0) rfl ?_
  refine wp_istore d_Law_tells_10 (by decide) ?_
  obtain ⟨told_32, M33, e35, h⟩ := ob2_some h
  refine l_Law_tells_1 hl hw_world hc_t ?_ _ _ _ _ _ _ _ e35
  intro u5 u6 u7 u8
  refine wp_iconst d_Law_tells_123 (v := nI 0) rfl ?_
  refine wp_iload d_Law_tells_124 rfl ?_
  have k34 : ∀ u5 u6 u7 u8 : Value, wp X (d + 4) f_Law_tells (0, 0) 139 [.ref l, .int word_, .ref w_world, .ref c_t, .int told_32, u5, u6, u7, u8] [.int (if word_ = (nI 2) then nI 9 else nI 1000), .int told_32, .int (nI 0)] (lay M33) Q := by
    intro u5 u6 u7 u8
    refine wl_mmin d_Law_tells_139 ls_Law_35 rfl ⟨by decide, by decide⟩ ?_
    refine wl_mmax d_Law_tells_142 ls_Law_61 rfl ⟨by decide, by decide⟩ ?_
    cases h
    exact wp_iret d_Law_tells_145 rfl rfl rfl hq
  refine wp_iload_n d_Law_tells_126 rfl rfl ?_
  refine wp_iconst d_Law_tells_127 (v := nI 2) rfl ?_
  refine wq_icmp_ne 136 d_Law_tells_128 rfl (fun h128 => ?_) (fun h128 => ?_)
  · refine wp_sipush d_Law_tells_136 (v := nI 1000) rfl ?_
    exact wj_in h128 (k34 _ _ _ _)
  · refine wp_bipush d_Law_tells_131 (v := nI 9) rfl ?_
    refine wp_goto 139 d_Law_tells_133 rfl ?_
    exact wj_ip h128 (k34 _ _ _ _)
end S141
