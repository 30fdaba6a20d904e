/-! methods as functions: printed by program -/
section S140
variable {X : mXs} {d z : Nat} {Q : Option Value → mH → Prop}
def F_Rec_forget (M : mM) : Option mM :=
  ob1 (some (up M 0 7 (nI 0))) fun M1 =>
  some M1
theorem s_Rec_forget {M : mM} {M' : mM} (h : F_Rec_forget M = some M') (hq : Q none (lay M')) : Sp X d f_Rec_forget [.ref 0] (lay M) Q := by
  refine Sp_of (by decide) rfl (Nat.le_of_ble_eq_true rfl) ?_
  refine wp_aload_n d_Rec_forget_0 rfl rfl ?_
  refine wp_iconst d_Rec_forget_1 (v := nI 0) rfl ?_
  refine wl_put d_Rec_forget_2 lp_Rec_41 sh_0 rfl ⟨rfl, rfl⟩ ?_
  obtain ⟨M1, e2, h⟩ := ob1_some h
  refine wx_M e2 ?_
  cases h
  exact wp_ret d_Rec_forget_5 rfl rfl hq
def F_Rec_state (v_ : Int32) (M : mM) : Option (Int32 × mM) :=
  ob1 (some (up M 1 6 v_)) fun M1 =>
  ob1 (F_Rec_forget M1) fun M3 =>
  some (M 1 6, M3)
theorem s_Rec_state {v_ : Int32} {M : mM} {r : Int32} {M' : mM} (h : F_Rec_state v_ M = some (r, M')) (hq : Q (some (.int r)) (lay M')) : Sp X (d + 1) f_Rec_state [.ref 0, .int v_] (lay M) Q := by
  refine Sp_of (by decide) rfl (Nat.le_of_ble_eq_true rfl) ?_
  refine wp_aload_n d_Rec_state_0 rfl rfl ?_
  refine wl_getR d_Rec_state_1 lf_Rec_12 sh_0 rfl ?_
  refine wl_getI d_Rec_state_4 lf_Rec_75 (shW0 isW_1) rfl rfl ?_
  refine wp_istore_n d_Rec_state_7 rfl (by decide) ?_
  refine wp_aload_n d_Rec_state_8 rfl rfl ?_
  refine wl_getR d_Rec_state_9 lf_Rec_12 sh_0 rfl ?_
  refine wp_iload_n d_Rec_state_12 rfl rfl ?_
  refine wl_put d_Rec_state_13 lp_Rec_75 (shW0 isW_1) rfl ⟨rfl, rfl⟩ ?_
  obtain ⟨M1, e2, h⟩ := ob1_some h
  refine wx_M e2 ?_
  refine wp_aload_n d_Rec_state_16 rfl rfl ?_
  obtain ⟨M3, e4, h⟩ := ob1_some h
  refine wl_callV0 d_Rec_state_17 lc_Rec_forget lv_Rec_78 rfl sh_0 rfl rfl ⟨rfl, rfl⟩ ⟨by decide, by decide⟩ ?_
  refine s_Rec_forget (d := d) e4 ?_
  refine wp_iload_n d_Rec_state_20 rfl rfl ?_
  cases h
  exact wp_iret d_Rec_state_21 rfl rfl rfl hq
def F_Rec_within (v_ : Int32) (least_ : Int32) (most_ : Int32) : Bool :=
  decide ((¬ (v_ < least_) ∧ ¬ (most_ < v_)))
theorem s_Rec_within {v_ : Int32} {least_ : Int32} {most_ : Int32} {M : mM} {r : Bool} (h : F_Rec_within v_ least_ most_ = r) (hq : Q (some (.int (bI r))) (lay M)) : Sp X d f_Rec_within [.int v_, .int least_, .int most_] (lay M) Q := by
  refine Sp_of (by decide) rfl (Nat.le_of_ble_eq_true rfl) ?_
  have k1 : wp X d f_Rec_within (0, 0) 15 [.int v_, .int least_, .int most_] [.int (bI (decide ((¬ (v_ < least_) ∧ ¬ (most_ < v_)))))] (lay M) Q := by
    cases h
    exact wb_iret d_Rec_within_15 rfl rfl hq
  refine wp_iload_n d_Rec_within_0 rfl rfl ?_
  refine wp_iload_n d_Rec_within_1 rfl rfl ?_
  refine wq_icmp_lt 14 d_Rec_within_2 rfl (fun h2 => ?_) (fun h2 => ?_)
  · refine wp_iconst d_Rec_within_14 (v := nI 0) rfl ?_
    exact wj_f (fun z => (fun z => z h2) z.1) (k1)
  · refine wp_iload_n d_Rec_within_5 rfl rfl ?_
    refine wp_iload_n d_Rec_within_6 rfl rfl ?_
    refine wq_icmp_gt 14 d_Rec_within_7 rfl (fun h7 => ?_) (fun h7 => ?_)
    · refine wp_iconst d_Rec_within_14 (v := nI 0) rfl ?_
      exact wj_f (fun z => (fun z => z h7) z.2) (k1)
    · refine wp_iconst d_Rec_within_10 (v := nI 1) rfl ?_
      refine wp_goto 15 d_Rec_within_11 rfl ?_
      exact wj_t ⟨h2, h7⟩ (k1)
def F_Rec_setGlue (inch_ : Int32) (v_ : Int32) (M : mM) : Option (Bool × mM) :=
  if (¬ ((F_Rec_within inch_ (nI 0) (nI 59)) = true) ∨ ¬ ((F_Rec_within v_ (nI 0) (nI 99)) = true)) then
  some (false, M)
  else
  ob1 (wa M 2 60 inch_ v_) fun M4 =>
  some (true, M4)
theorem s_Rec_setGlue {inch_ : Int32} {v_ : Int32} {M : mM} {r : Bool} {M' : mM} (h : F_Rec_setGlue inch_ v_ M = some (r, M')) (hq : Q (some (.int (bI r))) (lay M')) : Sp X (d + 1) f_Rec_setGlue [.ref 0, .int inch_, .int v_] (lay M) Q := by
  refine Sp_of (by decide) rfl (Nat.le_of_ble_eq_true rfl) ?_
  have k1 : (¬ ((F_Rec_within inch_ (nI 0) (nI 59)) = true) ∨ ¬ ((F_Rec_within v_ (nI 0) (nI 99)) = true)) → wp X (d + 1) f_Rec_setGlue (0, 0) 20 [.ref 0, .int inch_, .int v_] [] (lay M) Q := by
    intro x2
    replace h := ip h x2
    refine wp_iconst d_Rec_setGlue_20 (v := bI false) rfl ?_
    cases h
    exact wb_iret d_Rec_setGlue_21 rfl rfl hq
  refine wp_iload_n d_Rec_setGlue_0 rfl rfl ?_
  refine wp_iconst d_Rec_setGlue_1 (v := nI 0) rfl ?_
  refine wp_bipush d_Rec_setGlue_2 (v := nI 59) rfl ?_
  refine wl_callS3 d_Rec_setGlue_4 lc_Rec_within ls_Rec_96 rfl ⟨rfl, rfl⟩ ⟨by decide, by decide⟩ ?_
  refine s_Rec_within (d := d) rfl ?_
  refine wc_eq 20 d_Rec_setGlue_7 rfl (fun h7 => ?_) (fun h7 => ?_)
  · exact k1 (Or.inl h7)
  · refine wp_iload_n d_Rec_setGlue_10 rfl rfl ?_
    refine wp_iconst d_Rec_setGlue_11 (v := nI 0) rfl ?_
    refine wp_bipush d_Rec_setGlue_12 (v := nI 99) rfl ?_
    refine wl_callS3 d_Rec_setGlue_14 lc_Rec_within ls_Rec_96 rfl ⟨rfl, rfl⟩ ⟨by decide, by decide⟩ ?_
    refine s_Rec_within (d := d) rfl ?_
    refine wc_ne 22 d_Rec_setGlue_17 rfl (fun h17 => ?_) (fun h17 => ?_)
    · replace h := inn h (fun z => z.elim (fun z => z h7) (fun z => z h17))
      refine wp_aload_n d_Rec_setGlue_22 rfl rfl ?_
      refine wl_getR d_Rec_setGlue_23 lf_Rec_12 sh_0 rfl ?_
      refine wl_getR d_Rec_setGlue_26 lf_Rec_100 (shW0 isW_1) rfl ?_
      refine wp_iload_n d_Rec_setGlue_29 rfl rfl ?_
      refine wp_iload_n d_Rec_setGlue_30 rfl rfl ?_
      obtain ⟨M4, e3, h⟩ := ob1_some h
      refine wa_ast d_Rec_setGlue_31 (shW1 isW_1) e3 ?_
      refine wp_iconst d_Rec_setGlue_32 (v := bI true) rfl ?_
      cases h
      exact wb_iret d_Rec_setGlue_33 rfl rfl hq
    · exact k1 (Or.inr h17)
def F_Rec_setSky (what_ : Int32) (v_ : Int32) (M : mM) : Option (Bool × mM) :=
  if ¬ ((F_Rec_within v_ (nI 0) (nI 9)) = true) then
  some (false, M)
  else
  ob1 (if what_ = (nI 4) then
  ob1 (some (up M 1 7 v_)) fun M10 =>
  some (M10)
  else
  ob1 (some (up M 1 8 v_)) fun M8 =>
  some (M8)) fun M6 =>
  some (true, M6)
theorem s_Rec_setSky {what_ : Int32} {v_ : Int32} {M : mM} {r : Bool} {M' : mM} (h : F_Rec_setSky what_ v_ M = some (r, M')) (hq : Q (some (.int (bI r))) (lay M')) : Sp X (d + 1) f_Rec_setSky [.ref 0, .int what_, .int v_] (lay M) Q := by
  refine Sp_of (by decide) rfl (Nat.le_of_ble_eq_true rfl) ?_
  refine wp_iload_n d_Rec_setSky_0 rfl rfl ?_
  refine wp_iconst d_Rec_setSky_1 (v := nI 0) rfl ?_
  refine wp_bipush d_Rec_setSky_2 (v := nI 9) rfl ?_
  refine wl_callS3 d_Rec_setSky_4 lc_Rec_within ls_Rec_96 rfl ⟨rfl, rfl⟩ ⟨by decide, by decide⟩ ?_
  refine s_Rec_within (d := d) rfl ?_
  refine wc_ne 12 d_Rec_setSky_7 rfl (fun h7 => ?_) (fun h7 => ?_)
  · replace h := inn h (fun z => z h7)
    obtain ⟨M6, e7, h⟩ := ob1_some h
    have k5 : wp X (d + 1) f_Rec_setSky (0, 0) 36 [.ref 0, .int what_, .int v_] [] (lay M6) Q := by
      refine wp_iconst d_Rec_setSky_36 (v := bI true) rfl ?_
      cases h
      exact wb_iret d_Rec_setSky_37 rfl rfl hq
    refine wp_iload_n d_Rec_setSky_12 rfl rfl ?_
    refine wp_iconst d_Rec_setSky_13 (v := nI 4) rfl ?_
    refine wq_icmp_ne 28 d_Rec_setSky_14 rfl (fun h14 => ?_) (fun h14 => ?_)
    · replace e7 := inn e7 h14
      refine wp_aload_n d_Rec_setSky_28 rfl rfl ?_
      refine wl_getR d_Rec_setSky_29 lf_Rec_12 sh_0 rfl ?_
      refine wp_iload_n d_Rec_setSky_32 rfl rfl ?_
      refine wl_put d_Rec_setSky_33 lp_Rec_107 (shW0 isW_1) rfl ⟨rfl, rfl⟩ ?_
      obtain ⟨M8, e9, e7⟩ := ob1_some e7
      refine wx_M e9 ?_
      cases e7
      exact k5
    · replace e7 := ip e7 h14
      refine wp_aload_n d_Rec_setSky_17 rfl rfl ?_
      refine wl_getR d_Rec_setSky_18 lf_Rec_12 sh_0 rfl ?_
      refine wp_iload_n d_Rec_setSky_21 rfl rfl ?_
      refine wl_put d_Rec_setSky_22 lp_Rec_104 (shW0 isW_1) rfl ⟨rfl, rfl⟩ ?_
      obtain ⟨M10, e11, e7⟩ := ob1_some e7
      refine wx_M e11 ?_
      cases e7
      refine wp_goto 36 d_Rec_setSky_25 rfl ?_
      exact k5
  · replace h := ip h h7
    refine wp_iconst d_Rec_setSky_10 (v := bI false) rfl ?_
    cases h
    exact wb_iret d_Rec_setSky_11 rfl rfl hq
def F_Rec_setThing (what_ : Int32) (thing_ : Option Nat) (v_ : Int32) (M : mM) : Option (Bool × mM) :=
  if thing_ = none then
  some (false, M)
  else
  jn (fun (M35 : mM) =>
  some (true, M35)) fun kj36 =>
  if (what_ = (nI 1) ∧ (F_Rec_within v_ (nI 1) (nI 9)) = true) then
  ob1 (dT thing_) fun c51 =>
  ob1 (some (up M c51 2 v_)) fun M53 =>
  kj36 M53
  else
  if (what_ = (nI 2) ∧ (F_Rec_within v_ (nI 0) (nI 9)) = true) then
  ob1 (dT thing_) fun c47 =>
  ob1 (some (up M c47 3 v_)) fun M49 =>
  kj36 M49
  else
  if (what_ = (nI 3) ∧ (F_Rec_within v_ (nI 0) (nI 6)) = true) then
  ob1 (dT thing_) fun c43 =>
  ob1 (some (up M c43 6 v_)) fun M45 =>
  kj36 M45
  else
  some (false, M)
theorem s_Rec_setThing {what_ : Int32} {thing_ : Option Nat} {v_ : Int32} {M : mM} {r : Bool} {M' : mM} (h : F_Rec_setThing what_ thing_ v_ M = some (r, M')) (hq : Q (some (.int (bI r))) (lay M')) : Sp X (d + 1) f_Rec_setThing [.int what_, rvO thing_, .int v_] (lay M) Q := by
  refine Sp_of (by decide) (by cases thing_ <;> rfl) (Nat.le_of_ble_eq_true rfl) ?_
  refine wr_aload_n d_Rec_setThing_0 rfl rfl ?_
  refine wr_ifnonnull 6 d_Rec_setThing_1 rfl (fun h1 => ?_) (fun h1 => ?_)
  · replace h := inn h h1
    have k34 : ∀ (M35 : mM), (fun (M35 : mM) =>
          some (true, M35)) M35 = some (r, M') → wp X (d + 1) f_Rec_setThing (0, 0) 77 [.int what_, rvO thing_, .int v_] [] (lay M35) Q := by
      intro M35 h
      refine wp_iconst d_Rec_setThing_77 (v := bI true) rfl ?_
      cases h
      exact wb_iret d_Rec_setThing_78 rfl rfl hq
    have k37 : ¬ (what_ = (nI 1) ∧ (F_Rec_within v_ (nI 1) (nI 9)) = true) → wp X (d + 1) f_Rec_setThing (0, 0) 29 [.int what_, rvO thing_, .int v_] [] (lay M) Q := by
      intro x38
      replace h := inn h x38
      have k39 : ¬ (what_ = (nI 2) ∧ (F_Rec_within v_ (nI 0) (nI 9)) = true) → wp X (d + 1) f_Rec_setThing (0, 0) 52 [.int what_, rvO thing_, .int v_] [] (lay M) Q := by
        intro x40
        replace h := inn h x40
        have k41 : ¬ (what_ = (nI 3) ∧ (F_Rec_within v_ (nI 0) (nI 6)) = true) → wp X (d + 1) f_Rec_setThing (0, 0) 75 [.int what_, rvO thing_, .int v_] [] (lay M) Q := by
          intro x42
          replace h := inn h x42
          refine wp_iconst d_Rec_setThing_75 (v := bI false) rfl ?_
          cases h
          exact wb_iret d_Rec_setThing_76 rfl rfl hq
        refine wp_iload_n d_Rec_setThing_52 rfl rfl ?_
        refine wp_iconst d_Rec_setThing_53 (v := nI 3) rfl ?_
        refine wq_icmp_ne 75 d_Rec_setThing_54 rfl (fun h54 => ?_) (fun h54 => ?_)
        · exact k41 (fun z => h54 z.1)
        · refine wp_iload_n d_Rec_setThing_57 rfl rfl ?_
          refine wp_iconst d_Rec_setThing_58 (v := nI 0) rfl ?_
          refine wp_bipush d_Rec_setThing_59 (v := nI 6) rfl ?_
          refine wl_callS3 d_Rec_setThing_61 lc_Rec_within ls_Rec_96 rfl ⟨rfl, rfl⟩ ⟨by decide, by decide⟩ ?_
          refine s_Rec_within (d := d) rfl ?_
          refine wc_eq 75 d_Rec_setThing_64 rfl (fun h64 => ?_) (fun h64 => ?_)
          · exact k41 (fun z => h64 z.2)
          · replace h := ip h ⟨h54, h64⟩
            refine wr_aload_n d_Rec_setThing_67 rfl rfl ?_
            obtain ⟨c43, e44, h⟩ := ob1_some h
            refine wr_deref e44 ?_
            have tc43 := dT_th e44
            refine wp_iload_n d_Rec_setThing_68 rfl rfl ?_
            refine wl_put d_Rec_setThing_69 lp_Rec_118 (shTh tc43) rfl ⟨rfl, rfl⟩ ?_
            obtain ⟨M45, e46, h⟩ := ob1_some h
            refine wx_M e46 ?_
            refine wp_goto 77 d_Rec_setThing_72 rfl ?_
            exact k34 _ h
      refine wp_iload_n d_Rec_setThing_29 rfl rfl ?_
      refine wp_iconst d_Rec_setThing_30 (v := nI 2) rfl ?_
      refine wq_icmp_ne 52 d_Rec_setThing_31 rfl (fun h31 => ?_) (fun h31 => ?_)
      · exact k39 (fun z => h31 z.1)
      · refine wp_iload_n d_Rec_setThing_34 rfl rfl ?_
        refine wp_iconst d_Rec_setThing_35 (v := nI 0) rfl ?_
        refine wp_bipush d_Rec_setThing_36 (v := nI 9) rfl ?_
        refine wl_callS3 d_Rec_setThing_38 lc_Rec_within ls_Rec_96 rfl ⟨rfl, rfl⟩ ⟨by decide, by decide⟩ ?_
        refine s_Rec_within (d := d) rfl ?_
        refine wc_eq 52 d_Rec_setThing_41 rfl (fun h41 => ?_) (fun h41 => ?_)
        · exact k39 (fun z => h41 z.2)
        · replace h := ip h ⟨h31, h41⟩
          refine wr_aload_n d_Rec_setThing_44 rfl rfl ?_
          obtain ⟨c47, e48, h⟩ := ob1_some h
          refine wr_deref e48 ?_
          have tc47 := dT_th e48
          refine wp_iload_n d_Rec_setThing_45 rfl rfl ?_
          refine wl_put d_Rec_setThing_46 lp_Rec_115 (shTh tc47) rfl ⟨rfl, rfl⟩ ?_
          obtain ⟨M49, e50, h⟩ := ob1_some h
          refine wx_M e50 ?_
          refine wp_goto 77 d_Rec_setThing_49 rfl ?_
          exact k34 _ h
    refine wp_iload_n d_Rec_setThing_6 rfl rfl ?_
    refine wp_iconst d_Rec_setThing_7 (v := nI 1) rfl ?_
    refine wq_icmp_ne 29 d_Rec_setThing_8 rfl (fun h8 => ?_) (fun h8 => ?_)
    · exact k37 (fun z => h8 z.1)
    · refine wp_iload_n d_Rec_setThing_11 rfl rfl ?_
      refine wp_iconst d_Rec_setThing_12 (v := nI 1) rfl ?_
      refine wp_bipush d_Rec_setThing_13 (v := nI 9) rfl ?_
      refine wl_callS3 d_Rec_setThing_15 lc_Rec_within ls_Rec_96 rfl ⟨rfl, rfl⟩ ⟨by decide, by decide⟩ ?_
      refine s_Rec_within (d := d) rfl ?_
      refine wc_eq 29 d_Rec_setThing_18 rfl (fun h18 => ?_) (fun h18 => ?_)
      · exact k37 (fun z => h18 z.2)
      · replace h := ip h ⟨h8, h18⟩
        refine wr_aload_n d_Rec_setThing_21 rfl rfl ?_
        obtain ⟨c51, e52, h⟩ := ob1_some h
        refine wr_deref e52 ?_
        have tc51 := dT_th e52
        refine wp_iload_n d_Rec_setThing_22 rfl rfl ?_
        refine wl_put d_Rec_setThing_23 lp_Rec_110 (shTh tc51) rfl ⟨rfl, rfl⟩ ?_
        obtain ⟨M53, e54, h⟩ := ob1_some h
        refine wx_M e54 ?_
        refine wp_goto 77 d_Rec_setThing_26 rfl ?_
        exact k34 _ h
  · replace h := ip h h1
    refine wp_iconst d_Rec_setThing_4 (v := bI false) rfl ?_
    cases h
    exact wb_iret d_Rec_setThing_5 rfl rfl hq
def L_World_slotOf_1 (z : Nat) (w : Nat) (number_ : Int32) (M : mM) (kt : Option (Int32)) : Nat → Int32 → Option (Int32)
  | 0, _ => none
  | n + 1, i_ =>
    if i_ < (M w 5) then
    ob1 (ob1 (rT M (w + 4) 20 i_) fun c10 =>
    some (decide ((M c10 0) = number_))) fun x1 =>
    if x1 = true then
    some (i_)
    else
    L_World_slotOf_1 z w number_ M kt n (i_ + nI 1)
    else
    kt 
def F_World_slotOf (z : Nat) (w : Nat) (number_ : Int32) (M : mM) : Option (Int32) :=
  L_World_slotOf_1 z w number_ M (some ((-1))) z (nI 0)
theorem l_World_slotOf_1 {w : Nat} {number_ : Int32} {M : mM} {kt : Option (Int32)}  {r : Int32} (hw : isW w) (hq : Q (some (.int r)) (lay M)) (K : ∀  (u2 : Value), kt  = some r → wp X d f_World_slotOf (0, 0) 31 [.ref w, .int number_, u2] [] (lay M) Q) : ∀ (n : Nat) (i_ : Int32), L_World_slotOf_1 z w number_ M kt n i_ = some r → wp X d f_World_slotOf (0, 0) 2 [.ref w, .int number_, .int i_] [] (lay M) Q := by
  intro n
  induction n with
  | zero => intro i_ h; exact nn h
  | succ n ih =>
    intro i_ h
    refine wp_iload_n d_World_slotOf_2 rfl rfl ?_
    refine wp_aload_n d_World_slotOf_3 rfl rfl ?_
    refine wl_getI d_World_slotOf_4 lf_World_36 (shW0 hw) rfl rfl ?_
    refine wq_icmp_ge 31 d_World_slotOf_7 rfl (fun h7 => ?_) (fun h7 => ?_)
    · replace h := inn h h7
      exact K _ h
    · replace h := ip h h7
      obtain ⟨x1, e2, h⟩ := ob1_some h
      have k5 : x1 = true → wp X d f_World_slotOf (0, 0) 23 [.ref w, .int number_, .int i_] [] (lay M) Q := by
        intro x6
        replace h := ip h x6
        refine wp_iload_n d_World_slotOf_23 rfl rfl ?_
        cases h
        exact wp_iret d_World_slotOf_24 rfl rfl rfl hq
      have k7 : ¬ x1 = true → wp X d f_World_slotOf (0, 0) 25 [.ref w, .int number_, .int i_] [] (lay M) Q := by
        intro x8
        replace h := inn h x8
        refine wp_iinc d_World_slotOf_25 (v := i_ + nI 1) rfl rfl ?_
        refine wp_goto 2 d_World_slotOf_28 rfl ?_
        exact ih _ h
      refine wp_aload_n d_World_slotOf_10 rfl rfl ?_
      refine wl_getR d_World_slotOf_11 lf_World_23 (shW0 hw) rfl ?_
      refine wp_iload_n d_World_slotOf_14 rfl rfl ?_
      obtain ⟨c10, e9, e2⟩ := ob1_some e2
      have tc10 := rT_th e9
      refine wa_aald d_World_slotOf_15 (shW4 hw) e9 ?_
      refine wl_getI d_World_slotOf_16 lf_World_85 (shTh tc10) rfl rfl ?_
      refine wp_iload_n d_World_slotOf_19 rfl rfl ?_
      refine wq_icmp_ne 25 d_World_slotOf_20 rfl (fun h20 => ?_) (fun h20 => ?_)
      · cases e2
        exact k7 (fun z => h20 (of_decide_eq_true z))
      · cases e2
        exact k5 (decide_eq_true h20)
theorem s_World_slotOf {w : Nat} {number_ : Int32} {M : mM} {r : Int32} (hw : isW w) (h : F_World_slotOf z w number_ M = some r) (hq : Q (some (.int r)) (lay M)) : Sp X d f_World_slotOf [.ref w, .int number_] (lay M) Q := by
  refine Sp_of (by decide) rfl (Nat.le_of_ble_eq_true rfl) ?_
  refine wp_iconst d_World_slotOf_0 (v := nI 0) rfl ?_
  refine wp_istore_n d_World_slotOf_1 rfl (by decide) ?_
  refine l_World_slotOf_1 hw hq ?_ _ _ h
  intro u2 h
  refine wp_iconst d_World_slotOf_31 (v := (-1)) rfl ?_
  cases h
  exact wp_iret d_World_slotOf_32 rfl rfl rfl hq
def F_World_find (z : Nat) (w : Nat) (number_ : Int32) (M : mM) : Option (Option Nat) :=
  ob1 (F_World_slotOf z w number_ M) fun v1 =>
  ob1 (if v1 = (-1) then
  some (none)
  else
  ob1 (rT M (w + 4) 20 v1) fun c9 =>
  some (some c9)) fun c6 =>
  some (c6)
theorem s_World_find {w : Nat} {number_ : Int32} {M : mM} {r : Option Nat} (hw : isW w) (h : F_World_find z w number_ M = some r) (hq : Q (some (rvO r)) (lay M)) : Sp X (d + 1) f_World_find [.ref w, .int number_] (lay M) Q := by
  refine Sp_of (by decide) rfl (Nat.le_of_ble_eq_true rfl) ?_
  refine wp_aload_n d_World_find_0 rfl rfl ?_
  refine wp_iload_n d_World_find_1 rfl rfl ?_
  obtain ⟨v1, e2, h⟩ := ob1_some h
  refine wl_callV1 d_World_find_2 lc_World_slotOf lv_World_88 rfl (shW0 hw) rfl rfl ⟨rfl, rfl⟩ ⟨by decide, by decide⟩ ?_
  refine s_World_slotOf (d := d) hw e2 ?_
  refine wp_istore_n d_World_find_5 rfl (by decide) ?_
  obtain ⟨c6, e7, h⟩ := ob1_some h
  have k5 : wp X (d + 1) f_World_find (0, 0) 21 [.ref w, .int number_, .int v1] [rvO c6] (lay M) Q := by
    cases h
    exact wr_aret d_World_find_21 rfl rfl hq
  refine wp_iload_n d_World_find_6 rfl rfl ?_
  refine wp_iconst d_World_find_7 (v := (-1)) rfl ?_
  refine wq_icmp_ne 15 d_World_find_8 rfl (fun h8 => ?_) (fun h8 => ?_)
  · replace e7 := inn e7 h8
    refine wp_aload_n d_World_find_15 rfl rfl ?_
    refine wl_getR d_World_find_16 lf_World_23 (shW0 hw) rfl ?_
    refine wp_iload_n d_World_find_19 rfl rfl ?_
    obtain ⟨c9, e8, e7⟩ := ob1_some e7
    have tc9 := rT_th e8
    refine wa_aald d_World_find_20 (shW4 hw) e8 ?_
    cases e7
    exact k5
  · replace e7 := ip e7 h8
    refine wp_null d_World_find_11 ?_
    cases e7
    refine wp_goto 21 d_World_find_12 rfl ?_
    exact k5
def F_Rec_set (z : Nat) (what_ : Int32) (who_ : Int32) (v_ : Int32) (M : mM) : Option (Bool × mM) :=
  ob2 (if what_ = (nI 0) then
  ob2 (F_Rec_setGlue who_ v_ M) fun v63 M64 =>
  some (v63, M64)
  else
  ob2 (if (what_ = (nI 4) ∨ what_ = (nI 5)) then
  ob2 (F_Rec_setSky what_ v_ M) fun v55 M56 =>
  some (v55, M56)
  else
  ob1 (F_World_find z 1 who_ M) fun c58 =>
  ob2 (F_Rec_setThing what_ c58 v_ M) fun v60 M61 =>
  some (v60, M61)) fun v50 M52 =>
  some (v50, M52)) fun v29 M31 =>
  ob1 (if v29 = true then
  ob1 (F_Rec_forget M31) fun M37 =>
  some (M37)
  else
  some (M31)) fun M35 =>
  some (v29, M35)
theorem s_Rec_set {what_ : Int32} {who_ : Int32} {v_ : Int32} {M : mM} {r : Bool} {M' : mM} (h : F_Rec_set z what_ who_ v_ M = some (r, M')) (hq : Q (some (.int (bI r))) (lay M')) : Sp X (d + 2) f_Rec_set [.ref 0, .int what_, .int who_, .int v_] (lay M) Q := by
  refine Sp_of (by decide) rfl (Nat.le_of_ble_eq_true rfl) ?_
  obtain ⟨v29, M31, e30, h⟩ := ob2_some h
  have k28 : ∀ u4 : Value, wp X (d + 2) f_Rec_set (0, 0) 45 [.ref 0, .int what_, .int who_, .int v_, u4] [.int (bI v29)] (lay M31) Q := by
    intro u4
    refine wp_istore d_Rec_set_45 (by decide) ?_
    obtain ⟨M35, e36, h⟩ := ob1_some h
    have k34 : wp X (d + 2) f_Rec_set (0, 0) 56 [.ref 0, .int what_, .int who_, .int v_, .int (bI v29)] [] (lay M35) Q := by
      refine wp_iload d_Rec_set_56 rfl ?_
      cases h
      exact wb_iret d_Rec_set_58 rfl rfl hq
    refine wp_iload d_Rec_set_47 rfl ?_
    refine wc_eq 56 d_Rec_set_49 rfl (fun h49 => ?_) (fun h49 => ?_)
    · replace e36 := inn e36 h49
      cases e36
      exact k34
    · replace e36 := ip e36 h49
      refine wp_aload_n d_Rec_set_52 rfl rfl ?_
      obtain ⟨M37, e38, e36⟩ := ob1_some e36
      refine wl_callV0 d_Rec_set_53 lc_Rec_forget lv_Rec_78 rfl sh_0 rfl rfl ⟨rfl, rfl⟩ ⟨by decide, by decide⟩ ?_
      refine s_Rec_forget (d := d + 1) e38 ?_
      cases e36
      exact k34
  refine wp_iload_n d_Rec_set_0 rfl rfl ?_
  refine wz_ne 13 d_Rec_set_1 rfl (fun h1 => ?_) (fun h1 => ?_)
  · replace e30 := inn e30 h1
    obtain ⟨v50, M52, e51, e30⟩ := ob2_some e30
    have k49 : ∀ u4 : Value, wp X (d + 2) f_Rec_set (0, 0) 45 [.ref 0, .int what_, .int who_, .int v_, u4] [.int (bI v50)] (lay M52) Q := by
      intro u4
      cases e30
      exact k28 _
    have k53 : ∀ u4 : Value, (what_ = (nI 4) ∨ what_ = (nI 5)) → wp X (d + 2) f_Rec_set (0, 0) 23 [.ref 0, .int what_, .int who_, .int v_, u4] [] (lay M) Q := by
      intro u4 x54
      replace e51 := ip e51 x54
      refine wp_aload_n d_Rec_set_23 rfl rfl ?_
      refine wp_iload_n d_Rec_set_24 rfl rfl ?_
      refine wp_iload_n d_Rec_set_25 rfl rfl ?_
      obtain ⟨v55, M56, e57, e51⟩ := ob2_some e51
      refine wl_callV2 d_Rec_set_26 lc_Rec_setSky lv_Rec_85 rfl sh_0 rfl rfl ⟨rfl, rfl⟩ ⟨by decide, by decide⟩ ?_
      refine s_Rec_setSky (d := d) e57 ?_
      cases e51
      refine wp_goto 45 d_Rec_set_29 rfl ?_
      exact k49 _
    refine wp_iload_n d_Rec_set_13 rfl rfl ?_
    refine wp_iconst d_Rec_set_14 (v := nI 4) rfl ?_
    refine wq_icmp_eq 23 d_Rec_set_15 rfl (fun h15 => ?_) (fun h15 => ?_)
    · exact k53 _ (Or.inl h15)
    · refine wp_iload_n d_Rec_set_18 rfl rfl ?_
      refine wp_iconst d_Rec_set_19 (v := nI 5) rfl ?_
      refine wq_icmp_ne 32 d_Rec_set_20 rfl (fun h20 => ?_) (fun h20 => ?_)
      · replace e51 := inn e51 (fun z => z.elim h15 h20)
        refine wp_iload_n d_Rec_set_32 rfl rfl ?_
        refine wp_aload_n d_Rec_set_33 rfl rfl ?_
        refine wl_getR d_Rec_set_34 lf_Rec_12 sh_0 rfl ?_
        refine wp_iload_n d_Rec_set_37 rfl rfl ?_
        obtain ⟨c58, e59, e51⟩ := ob1_some e51
        refine wl_callV1 d_Rec_set_38 lc_World_find lv_Rec_88 rfl (shW0 isW_1) rfl rfl ⟨rfl, rfl⟩ ⟨by decide, by decide⟩ ?_
        refine s_World_find (d := d) isW_1 e59 ?_
        refine wp_iload_n d_Rec_set_41 rfl rfl ?_
        obtain ⟨v60, M61, e62, e51⟩ := ob2_some e51
        refine wl_callS3 d_Rec_set_42 lc_Rec_setThing ls_Rec_92 rfl ⟨rfl, rfl⟩ ⟨by decide, by decide⟩ ?_
        refine s_Rec_setThing (d := d) e62 ?_
        cases e51
        exact k49 _
      · exact k53 _ (Or.inr h20)
  · replace e30 := ip e30 h1
    refine wp_aload_n d_Rec_set_4 rfl rfl ?_
    refine wp_iload_n d_Rec_set_5 rfl rfl ?_
    refine wp_iload_n d_Rec_set_6 rfl rfl ?_
    obtain ⟨v63, M64, e65, e30⟩ := ob2_some e30
    refine wl_callV2 d_Rec_set_7 lc_Rec_setGlue lv_Rec_81 rfl sh_0 rfl rfl ⟨rfl, rfl⟩ ⟨by decide, by decide⟩ ?_
    refine s_Rec_setGlue (d := d) e65 ?_
    cases e30
    refine wp_goto 45 d_Rec_set_10 rfl ?_
    exact k28 _
def F_Rows_copyFrom (r0 : Nat) (wd : Nat) (mo : Nat) (r_other : Nat) (wd_other : Nat) (mo_other : Nat) (M : mM) : Option mM :=
  ob1 (some (F_Math_min (M r_other 3) (nI mo))) fun v1 =>
  ob1 (some (up M r0 3 v1)) fun M3 =>
  ob1 (some (F_Math_min ((M3 r0 3) * (nI wd)) (nI (wd_other * mo_other)))) fun v5 =>
  ob1 (wc M3 (r_other + 1) (wd_other * mo_other) (nI 0) (r0 + 1) (wd * mo) (nI 0) v5) fun M8 =>
  some M8
theorem s_Rows_copyFrom {r0 : Nat} {wd : Nat} {mo : Nat} {r_other : Nat} {wd_other : Nat} {mo_other : Nat} {M : mM} {M' : mM} (hr : isR r0 wd mo) (hr_other : isR r_other wd_other mo_other) (h : F_Rows_copyFrom r0 wd mo r_other wd_other mo_other M = some M') (hq : Q none (lay M')) : Sp X (d + 1) f_Rows_copyFrom [.ref r0, .ref r_other] (lay M) Q := by
  refine Sp_of (by decide) rfl (Nat.le_of_ble_eq_true rfl) ?_
  refine wp_aload_n d_Rows_copyFrom_0 rfl rfl ?_
  refine wp_aload_n d_Rows_copyFrom_1 rfl rfl ?_
  refine wl_getI d_Rows_copyFrom_2 lf_Rows_7 (isR0 hr_other) rfl rfl ?_
  refine wp_aload_n d_Rows_copyFrom_5 rfl rfl ?_
  refine wl_getR d_Rows_copyFrom_6 lf_Rows_16 (isR0 hr) rfl ?_
  refine wl_mmin d_Rows_copyFrom_9 ls_Rows_35 rfl ⟨by decide, by decide⟩ ?_
  obtain ⟨v1, e2, h⟩ := ob1_some h
  refine wx_int e2 ?_
  refine wl_put d_Rows_copyFrom_12 lp_Rows_7 (isR0 hr) rfl ⟨rfl, rfl⟩ ?_
  obtain ⟨M3, e4, h⟩ := ob1_some h
  refine wx_M e4 ?_
  refine wp_aload_n d_Rows_copyFrom_15 rfl rfl ?_
  refine wl_getI d_Rows_copyFrom_16 lf_Rows_7 (isR0 hr) rfl rfl ?_
  refine wp_aload_n d_Rows_copyFrom_19 rfl rfl ?_
  refine wl_getR d_Rows_copyFrom_20 lf_Rows_13 (isR0 hr) rfl ?_
  refine wp_imul d_Rows_copyFrom_23 ?_
  refine wp_aload_n d_Rows_copyFrom_24 rfl rfl ?_
  refine wl_getR d_Rows_copyFrom_25 lf_Rows_19 (isR0 hr_other) rfl ?_
  refine wl_alen (by decide) d_Rows_copyFrom_28 (isR1 hr_other) ?_
  refine wl_mmin d_Rows_copyFrom_29 ls_Rows_35 rfl ⟨by decide, by decide⟩ ?_
  obtain ⟨v5, e6, h⟩ := ob1_some h
  refine wx_int e6 ?_
  refine wp_istore_n d_Rows_copyFrom_32 rfl (by decide) ?_
  refine wp_aload_n d_Rows_copyFrom_33 rfl rfl ?_
  refine wl_getR d_Rows_copyFrom_34 lf_Rows_19 (isR0 hr_other) rfl ?_
  refine wp_iconst d_Rows_copyFrom_37 (v := nI 0) rfl ?_
  refine wp_aload_n d_Rows_copyFrom_38 rfl rfl ?_
  refine wl_getR d_Rows_copyFrom_39 lf_Rows_19 (isR0 hr) rfl ?_
  refine wp_iconst d_Rows_copyFrom_42 (v := nI 0) rfl ?_
  refine wp_iload_n d_Rows_copyFrom_43 rfl rfl ?_
  obtain ⟨M8, e7, h⟩ := ob1_some h
  refine wa_copy d_Rows_copyFrom_44 lac_Rows_40 (isR1 hr_other) (isR1 hr) e7 ?_
  cases h
  exact wp_ret d_Rows_copyFrom_47 rfl rfl hq
def F_Thing_copyFrom (c0 : Nat) (c_other : Nat) (M : mM) : Option mM :=
  ob1 (some (up M c0 0 (M c_other 0))) fun M1 =>
  ob1 (some (up M1 c0 1 (M1 c_other 1))) fun M3 =>
  ob1 (some (up M3 c0 2 (M3 c_other 2))) fun M5 =>
  ob1 (some (up M5 c0 3 (M5 c_other 3))) fun M7 =>
  ob1 (some (up M7 c0 4 (M7 c_other 4))) fun M9 =>
  ob1 (some (up M9 c0 5 (M9 c_other 5))) fun M11 =>
  ob1 (some (up M11 c0 6 (M11 c_other 6))) fun M13 =>
  some M13
theorem s_Thing_copyFrom {c0 : Nat} {c_other : Nat} {M : mM} {M' : mM} (hc0 : isTh c0 = true) (hc_other : isTh c_other = true) (h : F_Thing_copyFrom c0 c_other M = some M') (hq : Q none (lay M')) : Sp X d f_Thing_copyFrom [.ref c0, .ref c_other] (lay M) Q := by
  refine Sp_of (by decide) rfl (Nat.le_of_ble_eq_true rfl) ?_
  refine wp_aload_n d_Thing_copyFrom_0 rfl rfl ?_
  refine wp_aload_n d_Thing_copyFrom_1 rfl rfl ?_
  refine wl_getI d_Thing_copyFrom_2 lf_Thing_7 (shTh hc_other) rfl rfl ?_
  refine wl_put d_Thing_copyFrom_5 lp_Thing_7 (shTh hc0) rfl ⟨rfl, rfl⟩ ?_
  obtain ⟨M1, e2, h⟩ := ob1_some h
  refine wx_M e2 ?_
  refine wp_aload_n d_Thing_copyFrom_8 rfl rfl ?_
  refine wp_aload_n d_Thing_copyFrom_9 rfl rfl ?_
  refine wl_getI d_Thing_copyFrom_10 lf_Thing_13 (shTh hc_other) rfl rfl ?_
  refine wl_put d_Thing_copyFrom_13 lp_Thing_13 (shTh hc0) rfl ⟨rfl, rfl⟩ ?_
  obtain ⟨M3, e4, h⟩ := ob1_some h
  refine wx_M e4 ?_
  refine wp_aload_n d_Thing_copyFrom_16 rfl rfl ?_
  refine wp_aload_n d_Thing_copyFrom_17 rfl rfl ?_
  refine wl_getI d_Thing_copyFrom_18 lf_Thing_16 (shTh hc_other) rfl rfl ?_
  refine wl_put d_Thing_copyFrom_21 lp_Thing_16 (shTh hc0) rfl ⟨rfl, rfl⟩ ?_
  obtain ⟨M5, e6, h⟩ := ob1_some h
  refine wx_M e6 ?_
  refine wp_aload_n d_Thing_copyFrom_24 rfl rfl ?_
  refine wp_aload_n d_Thing_copyFrom_25 rfl rfl ?_
  refine wl_getI d_Thing_copyFrom_26 lf_Thing_19 (shTh hc_other) rfl rfl ?_
  refine wl_put d_Thing_copyFrom_29 lp_Thing_19 (shTh hc0) rfl ⟨rfl, rfl⟩ ?_
  obtain ⟨M7, e8, h⟩ := ob1_some h
  refine wx_M e8 ?_
  refine wp_aload_n d_Thing_copyFrom_32 rfl rfl ?_
  refine wp_aload_n d_Thing_copyFrom_33 rfl rfl ?_
  refine wl_getI d_Thing_copyFrom_34 lf_Thing_22 (shTh hc_other) rfl rfl ?_
  refine wl_put d_Thing_copyFrom_37 lp_Thing_22 (shTh hc0) rfl ⟨rfl, rfl⟩ ?_
  obtain ⟨M9, e10, h⟩ := ob1_some h
  refine wx_M e10 ?_
  refine wp_aload_n d_Thing_copyFrom_40 rfl rfl ?_
  refine wp_aload_n d_Thing_copyFrom_41 rfl rfl ?_
  refine wl_getI d_Thing_copyFrom_42 lf_Thing_25 (shTh hc_other) rfl rfl ?_
  refine wl_put d_Thing_copyFrom_45 lp_Thing_25 (shTh hc0) rfl ⟨rfl, rfl⟩ ?_
  obtain ⟨M11, e12, h⟩ := ob1_some h
  refine wx_M e12 ?_
  refine wp_aload_n d_Thing_copyFrom_48 rfl rfl ?_
  refine wp_aload_n d_Thing_copyFrom_49 rfl rfl ?_
  refine wl_getI d_Thing_copyFrom_50 lf_Thing_28 (shTh hc_other) rfl rfl ?_
  refine wl_put d_Thing_copyFrom_53 lp_Thing_28 (shTh hc0) rfl ⟨rfl, rfl⟩ ?_
  obtain ⟨M13, e14, h⟩ := ob1_some h
  refine wx_M e14 ?_
  cases h
  exact wp_ret d_Thing_copyFrom_56 rfl rfl hq
def L_World_copyFrom_1 (z : Nat) (w : Nat) (w_other : Nat) : Nat → Int32 → mM → Option (mM)
  | 0, _, _ => none
  | n + 1, i_, M =>
    if i_ < (M w_other 5) then
    ob1 (rT M (w + 4) 20 i_) fun c8 =>
    ob1 (rT M (w_other + 4) 20 i_) fun c10 =>
    ob1 (F_Thing_copyFrom c8 c10 M) fun M11 =>
    L_World_copyFrom_1 z w w_other n (i_ + nI 1) M11
    else
    some (M)
def F_World_copyFrom (z : Nat) (w : Nat) (w_other : Nat) (M : mM) : Option mM :=
  ob1 (wc M (w_other + 1) 60 (nI 0) (w + 1) 60 (nI 0) (nI 60)) fun M2 =>
  ob1 (wc M2 (w_other + 2) 60 (nI 0) (w + 2) 60 (nI 0) (nI 60)) fun M4 =>
  ob1 (wc M4 (w_other + 3) 60 (nI 0) (w + 3) 60 (nI 0) (nI 60)) fun M6 =>
  ob1 (L_World_copyFrom_1 z w w_other z (nI 0) M6) fun M13 =>
  ob1 (F_Rows_copyFrom (w + 5) 4 150 (w_other + 5) 4 150 M13) fun M14 =>
  ob1 (some (up M14 w 5 (M14 w_other 5))) fun M16 =>
  ob1 (some (up M16 w 6 (M16 w_other 6))) fun M18 =>
  ob1 (some (up M18 w 7 (M18 w_other 7))) fun M20 =>
  ob1 (some (up M20 w 8 (M20 w_other 8))) fun M22 =>
  ob1 (some (up M22 w 9 (M22 w_other 9))) fun M24 =>
  ob1 (some (up M24 w 10 (M24 w_other 10))) fun M26 =>
  ob1 (some (up M26 w 11 (M26 w_other 11))) fun M28 =>
  ob1 (some (up M28 w 12 (M28 w_other 12))) fun M30 =>
  some M30
theorem l_World_copyFrom_1 {w : Nat} {w_other : Nat}  {N' : mM} (hw : isW w) (hw_other : isW w_other) (K : ∀ u2 : Value, wp X (d + 2) f_World_copyFrom (0, 0) 76 [.ref w, .ref w_other, u2] [] (lay N') Q) : ∀ (n : Nat) (i_ : Int32) (M : mM), L_World_copyFrom_1 z w w_other n i_ M = some (N') → wp X (d + 2) f_World_copyFrom (0, 0) 47 [.ref w, .ref w_other, .int i_] [] (lay M) Q := by
  intro n
  induction n with
  | zero => intro i_ M h; exact nn h
  | succ n ih =>
    intro i_ M h
    refine wp_iload_n d_World_copyFrom_47 rfl rfl ?_
    refine wp_aload_n d_World_copyFrom_48 rfl rfl ?_
    refine wl_getI d_World_copyFrom_49 lf_World_36 (shW0 hw_other) rfl rfl ?_
    refine wq_icmp_ge 76 d_World_copyFrom_52 rfl (fun h52 => ?_) (fun h52 => ?_)
    · replace h := inn h h52
      cases h
      exact K _
    · replace h := ip h h52
      refine wp_aload_n d_World_copyFrom_55 rfl rfl ?_
      refine wl_getR d_World_copyFrom_56 lf_World_23 (shW0 hw) rfl ?_
      refine wp_iload_n d_World_copyFrom_59 rfl rfl ?_
      obtain ⟨c8, e7, h⟩ := ob1_some h
      have tc8 := rT_th e7
      refine wa_aald d_World_copyFrom_60 (shW4 hw) e7 ?_
      refine wp_aload_n d_World_copyFrom_61 rfl rfl ?_
      refine wl_getR d_World_copyFrom_62 lf_World_23 (shW0 hw_other) rfl ?_
      refine wp_iload_n d_World_copyFrom_65 rfl rfl ?_
      obtain ⟨c10, e9, h⟩ := ob1_some h
      have tc10 := rT_th e9
      refine wa_aald d_World_copyFrom_66 (shW4 hw_other) e9 ?_
      obtain ⟨M11, e12, h⟩ := ob1_some h
      refine wl_callV1 d_World_copyFrom_67 lc_Thing_copyFrom lv_World_74 rfl (shTh tc8) rfl rfl ⟨rfl, rfl⟩ ⟨by decide, by decide⟩ ?_
      refine s_Thing_copyFrom (d := d + 1) tc8 tc10 e12 ?_
      refine wp_iinc d_World_copyFrom_70 (v := i_ + nI 1) rfl rfl ?_
      refine wp_goto 47 d_World_copyFrom_73 rfl ?_
      exact ih _ _ h
theorem s_World_copyFrom {w : Nat} {w_other : Nat} {M : mM} {M' : mM} (hw : isW w) (hw_other : isW w_other) (h : F_World_copyFrom z w w_other M = some M') (hq : Q none (lay M')) : Sp X (d + 2) f_World_copyFrom [.ref w, .ref w_other] (lay M) Q := by
  refine Sp_of (by decide) rfl (Nat.le_of_ble_eq_true rfl) ?_
  refine wp_aload_n d_World_copyFrom_0 rfl rfl ?_
  refine wl_getR d_World_copyFrom_1 lf_World_9 (shW0 hw_other) rfl ?_
  refine wp_iconst d_World_copyFrom_4 (v := nI 0) rfl ?_
  refine wp_aload_n d_World_copyFrom_5 rfl rfl ?_
  refine wl_getR d_World_copyFrom_6 lf_World_9 (shW0 hw) rfl ?_
  refine wp_iconst d_World_copyFrom_9 (v := nI 0) rfl ?_
  refine wp_bipush d_World_copyFrom_10 (v := nI 60) rfl ?_
  obtain ⟨M2, e1, h⟩ := ob1_some h
  refine wa_copy d_World_copyFrom_12 lac_World_68 (shW1 hw_other) (shW1 hw) e1 ?_
  refine wp_aload_n d_World_copyFrom_15 rfl rfl ?_
  refine wl_getR d_World_copyFrom_16 lf_World_15 (shW0 hw_other) rfl ?_
  refine wp_iconst d_World_copyFrom_19 (v := nI 0) rfl ?_
  refine wp_aload_n d_World_copyFrom_20 rfl rfl ?_
  refine wl_getR d_World_copyFrom_21 lf_World_15 (shW0 hw) rfl ?_
  refine wp_iconst d_World_copyFrom_24 (v := nI 0) rfl ?_
  refine wp_bipush d_World_copyFrom_25 (v := nI 60) rfl ?_
  obtain ⟨M4, e3, h⟩ := ob1_some h
  refine wa_copy d_World_copyFrom_27 lac_World_68 (shW2 hw_other) (shW2 hw) e3 ?_
  refine wp_aload_n d_World_copyFrom_30 rfl rfl ?_
  refine wl_getR d_World_copyFrom_31 lf_World_18 (shW0 hw_other) rfl ?_
  refine wp_iconst d_World_copyFrom_34 (v := nI 0) rfl ?_
  refine wp_aload_n d_World_copyFrom_35 rfl rfl ?_
  refine wl_getR d_World_copyFrom_36 lf_World_18 (shW0 hw) rfl ?_
  refine wp_iconst d_World_copyFrom_39 (v := nI 0) rfl ?_
  refine wp_bipush d_World_copyFrom_40 (v := nI 60) rfl ?_
  obtain ⟨M6, e5, h⟩ := ob1_some h
  refine wa_copy d_World_copyFrom_42 lac_World_68 (shW3 hw_other) (shW3 hw) e5 ?_
  refine wp_iconst d_World_copyFrom_45 (v := nI 0) rfl ?_
  refine wp_istore_n d_World_copyFrom_46 rfl (by decide) ?_
  obtain ⟨M13, e32, h⟩ := ob1_some h
  refine l_World_copyFrom_1 hw hw_other ?_ _ _ _ e32
  intro u2
  refine wp_aload_n d_World_copyFrom_76 rfl rfl ?_
  refine wl_getR d_World_copyFrom_77 lf_World_32 (shW0 hw) rfl ?_
  refine wp_aload_n d_World_copyFrom_80 rfl rfl ?_
  refine wl_getR d_World_copyFrom_81 lf_World_32 (shW0 hw_other) rfl ?_
  obtain ⟨M14, e15, h⟩ := ob1_some h
  refine wl_callV1 d_World_copyFrom_84 lc_Rows_copyFrom lv_World_78 rfl (isR0 (isR_book hw)) rfl rfl ⟨rfl, rfl⟩ ⟨by decide, by decide⟩ ?_
  refine s_Rows_copyFrom (d := d) (isR_book hw) (isR_book hw_other) e15 ?_
  refine wp_aload_n d_World_copyFrom_87 rfl rfl ?_
  refine wp_aload_n d_World_copyFrom_88 rfl rfl ?_
  refine wl_getI d_World_copyFrom_89 lf_World_36 (shW0 hw_other) rfl rfl ?_
  refine wl_put d_World_copyFrom_92 lp_World_36 (shW0 hw) rfl ⟨rfl, rfl⟩ ?_
  obtain ⟨M16, e17, h⟩ := ob1_some h
  refine wx_M e17 ?_
  refine wp_aload_n d_World_copyFrom_95 rfl rfl ?_
  refine wp_aload_n d_World_copyFrom_96 rfl rfl ?_
  refine wl_getI d_World_copyFrom_97 lf_World_40 (shW0 hw_other) rfl rfl ?_
  refine wl_put d_World_copyFrom_100 lp_World_40 (shW0 hw) rfl ⟨rfl, rfl⟩ ?_
  obtain ⟨M18, e19, h⟩ := ob1_some h
  refine wx_M e19 ?_
  refine wp_aload_n d_World_copyFrom_103 rfl rfl ?_
  refine wp_aload_n d_World_copyFrom_104 rfl rfl ?_
  refine wl_getI d_World_copyFrom_105 lf_World_43 (shW0 hw_other) rfl rfl ?_
  refine wl_put d_World_copyFrom_108 lp_World_43 (shW0 hw) rfl ⟨rfl, rfl⟩ ?_
  obtain ⟨M20, e21, h⟩ := ob1_some h
  refine wx_M e21 ?_
  refine wp_aload_n d_World_copyFrom_111 rfl rfl ?_
  refine wp_aload_n d_World_copyFrom_112 rfl rfl ?_
  refine wl_getI d_World_copyFrom_113 lf_World_46 (shW0 hw_other) rfl rfl ?_
  refine wl_put d_World_copyFrom_116 lp_World_46 (shW0 hw) rfl ⟨rfl, rfl⟩ ?_
  obtain ⟨M22, e23, h⟩ := ob1_some h
  refine wx_M e23 ?_
  refine wp_aload_n d_World_copyFrom_119 rfl rfl ?_
  refine wp_aload_n d_World_copyFrom_120 rfl rfl ?_
  refine wl_getI d_World_copyFrom_121 lf_World_49 (shW0 hw_other) rfl rfl ?_
  refine wl_put d_World_copyFrom_124 lp_World_49 (shW0 hw) rfl ⟨rfl, rfl⟩ ?_
  obtain ⟨M24, e25, h⟩ := ob1_some h
  refine wx_M e25 ?_
  refine wp_aload_n d_World_copyFrom_127 rfl rfl ?_
  refine wp_aload_n d_World_copyFrom_128 rfl rfl ?_
  refine wl_getI d_World_copyFrom_129 lf_World_52 (shW0 hw_other) rfl rfl ?_
  refine wl_put d_World_copyFrom_132 lp_World_52 (shW0 hw) rfl ⟨rfl, rfl⟩ ?_
  obtain ⟨M26, e27, h⟩ := ob1_some h
  refine wx_M e27 ?_
  refine wp_aload_n d_World_copyFrom_135 rfl rfl ?_
  refine wp_aload_n d_World_copyFrom_136 rfl rfl ?_
  refine wl_getI d_World_copyFrom_137 lf_World_55 (shW0 hw_other) rfl rfl ?_
  refine wl_put d_World_copyFrom_140 lp_World_55 (shW0 hw) rfl ⟨rfl, rfl⟩ ?_
  obtain ⟨M28, e29, h⟩ := ob1_some h
  refine wx_M e29 ?_
  refine wp_aload_n d_World_copyFrom_143 rfl rfl ?_
  refine wp_aload_n d_World_copyFrom_144 rfl rfl ?_
  refine wl_getI d_World_copyFrom_145 lf_World_58 (shW0 hw_other) rfl rfl ?_
  refine wl_put d_World_copyFrom_148 lp_World_58 (shW0 hw) rfl ⟨rfl, rfl⟩ ?_
  obtain ⟨M30, e31, h⟩ := ob1_some h
  refine wx_M e31 ?_
  cases h
  exact wp_ret d_World_copyFrom_151 rfl rfl hq
def F_Rec_remember (z : Nat) (M : mM) : Option mM :=
  ob1 (rW M 99 6 (M 0 6)) fun w2 =>
  ob1 (F_World_copyFrom z w2 1 M) fun M3 =>
  ob1 (some (jrem ((M3 0 6) + (nI 1)) (nI 6))) fun v5 =>
  ob1 (some (up M3 0 6 v5)) fun M7 =>
  ob1 (some (F_Math_min ((M7 0 7) + (nI 1)) (nI 6))) fun v9 =>
  ob1 (some (up M7 0 7 v9)) fun M11 =>
  some M11
theorem s_Rec_remember {M : mM} {M' : mM} (h : F_Rec_remember z M = some M') (hq : Q none (lay M')) : Sp X (d + 3) f_Rec_remember [.ref 0] (lay M) Q := by
  refine Sp_of (by decide) rfl (Nat.le_of_ble_eq_true rfl) ?_
  refine wp_aload_n d_Rec_remember_0 rfl rfl ?_
  refine wl_getR d_Rec_remember_1 lf_Rec_33 sh_0 rfl ?_
  refine wp_aload_n d_Rec_remember_4 rfl rfl ?_
  refine wl_getI d_Rec_remember_5 lf_Rec_37 sh_0 rfl rfl ?_
  obtain ⟨w2, e1, h⟩ := ob1_some h
  have tw2 := rW_w e1
  refine wa_aaldW d_Rec_remember_8 sh_99 e1 ?_
  refine wp_aload_n d_Rec_remember_9 rfl rfl ?_
  refine wl_getR d_Rec_remember_10 lf_Rec_12 sh_0 rfl ?_
  obtain ⟨M3, e4, h⟩ := ob1_some h
  refine wl_callV1 d_Rec_remember_13 lc_World_copyFrom lv_Rec_209 rfl (shW0 tw2) rfl rfl ⟨rfl, rfl⟩ ⟨by decide, by decide⟩ ?_
  refine s_World_copyFrom (d := d) tw2 isW_1 e4 ?_
  refine wp_aload_n d_Rec_remember_16 rfl rfl ?_
  refine wp_aload_n d_Rec_remember_17 rfl rfl ?_
  refine wl_getI d_Rec_remember_18 lf_Rec_37 sh_0 rfl rfl ?_
  refine wp_iconst d_Rec_remember_21 (v := nI 1) rfl ?_
  refine wp_iadd d_Rec_remember_22 ?_
  refine wp_bipush d_Rec_remember_23 (v := nI 6) rfl ?_
  refine wp_irem d_Rec_remember_25 (by decide) ?_
  obtain ⟨v5, e6, h⟩ := ob1_some h
  refine wx_int e6 ?_
  refine wl_put d_Rec_remember_26 lp_Rec_37 sh_0 rfl ⟨rfl, rfl⟩ ?_
  obtain ⟨M7, e8, h⟩ := ob1_some h
  refine wx_M e8 ?_
  refine wp_aload_n d_Rec_remember_29 rfl rfl ?_
  refine wp_aload_n d_Rec_remember_30 rfl rfl ?_
  refine wl_getI d_Rec_remember_31 lf_Rec_41 sh_0 rfl rfl ?_
  refine wp_iconst d_Rec_remember_34 (v := nI 1) rfl ?_
  refine wp_iadd d_Rec_remember_35 ?_
  refine wp_bipush d_Rec_remember_36 (v := nI 6) rfl ?_
  refine wl_mmin d_Rec_remember_38 ls_Rec_350 rfl ⟨by decide, by decide⟩ ?_
  obtain ⟨v9, e10, h⟩ := ob1_some h
  refine wx_int e10 ?_
  refine wl_put d_Rec_remember_41 lp_Rec_41 sh_0 rfl ⟨rfl, rfl⟩ ?_
  obtain ⟨M11, e12, h⟩ := ob1_some h
  refine wx_M e12 ?_
  cases h
  exact wp_ret d_Rec_remember_44 rfl rfl hq
def F_World_hasRoom (w : Nat) (inch_ : Int32) (M : mM) : Option (Bool) :=
  ob1 (ob1 (if (¬ (inch_ < (nI 0)) ∧ inch_ < (nI 60)) then ob1 (ra M (w + 3) 60 inch_) fun v23 =>
  some (decide (v23 = (-1)))
  else some (false)) fun x14 =>
  if x14 = true then some (decide ((M w 5) < (nI 20)))
  else some (false)) fun x12 =>
  some (x12)
theorem s_World_hasRoom {w : Nat} {inch_ : Int32} {M : mM} {r : Bool} (hw : isW w) (h : F_World_hasRoom w inch_ M = some r) (hq : Q (some (.int (bI r))) (lay M)) : Sp X d f_World_hasRoom [.ref w, .int inch_] (lay M) Q := by
  refine Sp_of (by decide) rfl (Nat.le_of_ble_eq_true rfl) ?_
  obtain ⟨x12, e13, h⟩ := ob1_some h
  have k11 : wp X d f_World_hasRoom (0, 0) 34 [.ref w, .int inch_] [.int (bI x12)] (lay M) Q := by
    cases h
    exact wb_iret d_World_hasRoom_34 rfl rfl hq
  obtain ⟨x14, e15, e13⟩ := ob1_some e13
  have k18 : x14 = true → wp X d f_World_hasRoom (0, 0) 20 [.ref w, .int inch_] [] (lay M) Q := by
    intro x19
    replace e13 := ip e13 x19
    refine wp_aload_n d_World_hasRoom_20 rfl rfl ?_
    refine wl_getI d_World_hasRoom_21 lf_World_36 (shW0 hw) rfl rfl ?_
    refine wp_bipush d_World_hasRoom_24 (v := nI 20) rfl ?_
    refine wq_icmp_ge 33 d_World_hasRoom_26 rfl (fun h26 => ?_) (fun h26 => ?_)
    · cases e13
      refine wp_iconst d_World_hasRoom_33 (v := nI 0) rfl ?_
      exact wj_b0 (fun z => h26 (of_decide_eq_true z)) (k11)
    · cases e13
      refine wp_iconst d_World_hasRoom_29 (v := nI 1) rfl ?_
      refine wp_goto 34 d_World_hasRoom_30 rfl ?_
      exact wj_b1 (decide_eq_true h26) (k11)
  have k20 : ¬ x14 = true → wp X d f_World_hasRoom (0, 0) 33 [.ref w, .int inch_] [] (lay M) Q := by
    intro x21
    replace e13 := inn e13 x21
    cases e13
    refine wp_iconst d_World_hasRoom_33 (v := nI 0) rfl ?_
    exact wj_b0 (fun z => Bool.noConfusion z) (k11)
  refine wp_iload_n d_World_hasRoom_0 rfl rfl ?_
  refine wz_lt 33 d_World_hasRoom_1 rfl (fun h1 => ?_) (fun h1 => ?_)
  · replace e15 := inn e15 (fun z => (fun z => z h1) z.1)
    cases e15
    exact k20 (fun z => Bool.noConfusion z)
  · refine wp_iload_n d_World_hasRoom_4 rfl rfl ?_
    refine wp_bipush d_World_hasRoom_5 (v := nI 60) rfl ?_
    refine wq_icmp_ge 33 d_World_hasRoom_7 rfl (fun h7 => ?_) (fun h7 => ?_)
    · replace e15 := inn e15 (fun z => h7 z.2)
      cases e15
      exact k20 (fun z => Bool.noConfusion z)
    · replace e15 := ip e15 ⟨h1, h7⟩
      refine wp_aload_n d_World_hasRoom_10 rfl rfl ?_
      refine wl_getR d_World_hasRoom_11 lf_World_18 (shW0 hw) rfl ?_
      refine wp_iload_n d_World_hasRoom_14 rfl rfl ?_
      obtain ⟨v23, e22, e15⟩ := ob1_some e15
      refine wa_ald d_World_hasRoom_15 (shW3 hw) e22 ?_
      refine wp_iconst d_World_hasRoom_16 (v := (-1)) rfl ?_
      refine wq_icmp_ne 33 d_World_hasRoom_17 rfl (fun h17 => ?_) (fun h17 => ?_)
      · cases e15
        exact k20 (fun z => h17 (of_decide_eq_true z))
      · cases e15
        exact k18 (decide_eq_true h17)
def F_World_newcomer (w : Nat) (kind_ : Int32) (size_ : Int32) (life_ : Int32) (inch_ : Int32) (M : mM) : Option (Nat × mM) :=
  ob1 (rT M (w + 4) 20 (F_Math_min (M w 5) (nI 19))) fun c2 =>
  ob1 (some (up M c2 0 (M w 9))) fun M3 =>
  ob1 (some (up M3 c2 1 kind_)) fun M5 =>
  ob1 (some (up M5 c2 2 size_)) fun M7 =>
  ob1 (some (up M7 c2 3 life_)) fun M9 =>
  ob1 (some (up M9 c2 4 inch_)) fun M11 =>
  ob1 (some (up M11 c2 5 (nI 0))) fun M13 =>
  ob1 (some (up M13 c2 6 (nI 6))) fun M15 =>
  some (c2, M15)
theorem s_World_newcomer {w : Nat} {kind_ : Int32} {size_ : Int32} {life_ : Int32} {inch_ : Int32} {M : mM} {r : Nat} {M' : mM} (hw : isW w) (h : F_World_newcomer w kind_ size_ life_ inch_ M = some (r, M')) (hq : Q (some (.ref r)) (lay M')) : Sp X (d + 1) f_World_newcomer [.ref w, .int kind_, .int size_, .int life_, .int inch_] (lay M) Q := by
  refine Sp_of (by decide) rfl (Nat.le_of_ble_eq_true rfl) ?_
  refine wp_aload_n d_World_newcomer_0 rfl rfl ?_
  refine wl_getR d_World_newcomer_1 lf_World_23 (shW0 hw) rfl ?_
  refine wp_aload_n d_World_newcomer_4 rfl rfl ?_
  refine wl_getI d_World_newcomer_5 lf_World_36 (shW0 hw) rfl rfl ?_
  refine wp_bipush d_World_newcomer_8 (v := nI 19) rfl ?_
  refine wl_mmin d_World_newcomer_10 ls_World_96 rfl ⟨by decide, by decide⟩ ?_
  obtain ⟨c2, e1, h⟩ := ob1_some h
  have tc2 := rT_th e1
  refine wa_aald d_World_newcomer_13 (shW4 hw) e1 ?_
  refine wp_astore d_World_newcomer_14 (by decide) ?_
  refine wp_aload d_World_newcomer_16 rfl ?_
  refine wp_aload_n d_World_newcomer_18 rfl rfl ?_
  refine wl_getI d_World_newcomer_19 lf_World_49 (shW0 hw) rfl rfl ?_
  refine wl_put d_World_newcomer_22 lp_World_85 (shTh tc2) rfl ⟨rfl, rfl⟩ ?_
  obtain ⟨M3, e4, h⟩ := ob1_some h
  refine wx_M e4 ?_
  refine wp_aload d_World_newcomer_25 rfl ?_
  refine wp_iload_n d_World_newcomer_27 rfl rfl ?_
  refine wl_put d_World_newcomer_28 lp_World_102 (shTh tc2) rfl ⟨rfl, rfl⟩ ?_
  obtain ⟨M5, e6, h⟩ := ob1_some h
  refine wx_M e6 ?_
  refine wp_aload d_World_newcomer_31 rfl ?_
  refine wp_iload_n d_World_newcomer_33 rfl rfl ?_
  refine wl_put d_World_newcomer_34 lp_World_105 (shTh tc2) rfl ⟨rfl, rfl⟩ ?_
  obtain ⟨M7, e8, h⟩ := ob1_some h
  refine wx_M e8 ?_
  refine wp_aload d_World_newcomer_37 rfl ?_
  refine wp_iload_n d_World_newcomer_39 rfl rfl ?_
  refine wl_put d_World_newcomer_40 lp_World_108 (shTh tc2) rfl ⟨rfl, rfl⟩ ?_
  obtain ⟨M9, e10, h⟩ := ob1_some h
  refine wx_M e10 ?_
  refine wp_aload d_World_newcomer_43 rfl ?_
  refine wp_iload d_World_newcomer_45 rfl ?_
  refine wl_put d_World_newcomer_47 lp_World_111 (shTh tc2) rfl ⟨rfl, rfl⟩ ?_
  obtain ⟨M11, e12, h⟩ := ob1_some h
  refine wx_M e12 ?_
  refine wp_aload d_World_newcomer_50 rfl ?_
  refine wp_iconst d_World_newcomer_52 (v := nI 0) rfl ?_
  refine wl_put d_World_newcomer_53 lp_World_114 (shTh tc2) rfl ⟨rfl, rfl⟩ ?_
  obtain ⟨M13, e14, h⟩ := ob1_some h
  refine wx_M e14 ?_
  refine wp_aload d_World_newcomer_56 rfl ?_
  refine wp_bipush d_World_newcomer_58 (v := nI 6) rfl ?_
  refine wl_put d_World_newcomer_60 lp_World_117 (shTh tc2) rfl ⟨rfl, rfl⟩ ?_
  obtain ⟨M15, e16, h⟩ := ob1_some h
  refine wx_M e16 ?_
  refine wp_aload d_World_newcomer_63 rfl ?_
  cases h
  exact wp_aret d_World_newcomer_65 rfl (Or.inr ⟨_, rfl⟩) rfl hq
def F_Rows_isFull (r0 : Nat) (wd : Nat) (mo : Nat) (M : mM) : Bool :=
  decide (¬ ((M r0 3) < (nI mo)))
theorem s_Rows_isFull {r0 : Nat} {wd : Nat} {mo : Nat} {M : mM} {r : Bool} (hr : isR r0 wd mo) (h : F_Rows_isFull r0 wd mo M = r) (hq : Q (some (.int (bI r))) (lay M)) : Sp X d f_Rows_isFull [.ref r0] (lay M) Q := by
  refine Sp_of (by decide) rfl (Nat.le_of_ble_eq_true rfl) ?_
  have k1 : wp X d f_Rows_isFull (0, 0) 16 [.ref r0] [.int (bI (decide (¬ ((M r0 3) < (nI mo)))))] (lay M) Q := by
    cases h
    exact wb_iret d_Rows_isFull_16 rfl rfl hq
  refine wp_aload_n d_Rows_isFull_0 rfl rfl ?_
  refine wl_getI d_Rows_isFull_1 lf_Rows_7 (isR0 hr) rfl rfl ?_
  refine wp_aload_n d_Rows_isFull_4 rfl rfl ?_
  refine wl_getR d_Rows_isFull_5 lf_Rows_16 (isR0 hr) rfl ?_
  refine wq_icmp_lt 15 d_Rows_isFull_8 rfl (fun h8 => ?_) (fun h8 => ?_)
  · refine wp_iconst d_Rows_isFull_15 (v := nI 0) rfl ?_
    exact wj_f (fun z => z h8) (k1)
  · refine wp_iconst d_Rows_isFull_11 (v := nI 1) rfl ?_
    refine wp_goto 16 d_Rows_isFull_12 rfl ?_
    exact wj_t h8 (k1)
def F_Rows_write (r0 : Nat) (wd : Nat) (mo : Nat) (column_ : Int32) (v_ : Int32) (M : mM) : Option mM :=
  ob1 (some ((((M r0 3) - (nI 1)) * (nI wd)) + column_)) fun v1 =>
  if ((column_ < (nI wd) ∧ ¬ (v1 < (nI 0))) ∧ v1 < (nI (wd * mo))) then
  ob1 (wa M (r0 + 1) (wd * mo) v1 v_) fun M6 =>
  some M6
  else
  some M
theorem s_Rows_write {r0 : Nat} {wd : Nat} {mo : Nat} {column_ : Int32} {v_ : Int32} {M : mM} {M' : mM} (hr : isR r0 wd mo) (h : F_Rows_write r0 wd mo column_ v_ M = some M') (hq : Q none (lay M')) : Sp X d f_Rows_write [.ref r0, .int column_, .int v_] (lay M) Q := by
  refine Sp_of (by decide) rfl (Nat.le_of_ble_eq_true rfl) ?_
  refine wp_aload_n d_Rows_write_0 rfl rfl ?_
  refine wl_getI d_Rows_write_1 lf_Rows_7 (isR0 hr) rfl rfl ?_
  refine wp_iconst d_Rows_write_4 (v := nI 1) rfl ?_
  refine wp_isub d_Rows_write_5 ?_
  refine wp_aload_n d_Rows_write_6 rfl rfl ?_
  refine wl_getR d_Rows_write_7 lf_Rows_13 (isR0 hr) rfl ?_
  refine wp_imul d_Rows_write_10 ?_
  refine wp_iload_n d_Rows_write_11 rfl rfl ?_
  refine wp_iadd d_Rows_write_12 ?_
  obtain ⟨v1, e2, h⟩ := ob1_some h
  refine wx_int e2 ?_
  refine wp_istore_n d_Rows_write_13 rfl (by decide) ?_
  have k3 : ¬ ((column_ < (nI wd) ∧ ¬ (v1 < (nI 0))) ∧ v1 < (nI (wd * mo))) → wp X d f_Rows_write (0, 0) 42 [.ref r0, .int column_, .int v_, .int v1] [] (lay M) Q := by
    intro x4
    replace h := inn h x4
    cases h
    exact wp_ret d_Rows_write_42 rfl rfl hq
  refine wp_iload_n d_Rows_write_14 rfl rfl ?_
  refine wp_aload_n d_Rows_write_15 rfl rfl ?_
  refine wl_getR d_Rows_write_16 lf_Rows_13 (isR0 hr) rfl ?_
  refine wq_icmp_ge 42 d_Rows_write_19 rfl (fun h19 => ?_) (fun h19 => ?_)
  · exact k3 (fun z => (fun z => h19 z.1) z.1)
  · refine wp_iload_n d_Rows_write_22 rfl rfl ?_
    refine wz_lt 42 d_Rows_write_23 rfl (fun h23 => ?_) (fun h23 => ?_)
    · exact k3 (fun z => (fun z => (fun z => z h23) z.2) z.1)
    · refine wp_iload_n d_Rows_write_26 rfl rfl ?_
      refine wp_aload_n d_Rows_write_27 rfl rfl ?_
      refine wl_getR d_Rows_write_28 lf_Rows_19 (isR0 hr) rfl ?_
      refine wl_alen (by decide) d_Rows_write_31 (isR1 hr) ?_
      refine wq_icmp_ge 42 d_Rows_write_32 rfl (fun h32 => ?_) (fun h32 => ?_)
      · exact k3 (fun z => h32 z.2)
      · replace h := ip h ⟨⟨h19, h23⟩, h32⟩
        refine wp_aload_n d_Rows_write_35 rfl rfl ?_
        refine wl_getR d_Rows_write_36 lf_Rows_19 (isR0 hr) rfl ?_
        refine wp_iload_n d_Rows_write_39 rfl rfl ?_
        refine wp_iload_n d_Rows_write_40 rfl rfl ?_
        obtain ⟨M6, e5, h⟩ := ob1_some h
        refine wa_ast d_Rows_write_41 (isR1 hr) e5 ?_
        cases h
        exact wp_ret d_Rows_write_42 rfl rfl hq
def F_Rows_add (r0 : Nat) (wd : Nat) (mo : Nat) (a_ : Int32) (b_ : Int32) (c_ : Int32) (d_ : Int32) (e_ : Int32) (M : mM) : Option mM :=
  if (F_Rows_isFull r0 wd mo M) = true then
  some M
  else
  ob1 (some (up M r0 3 ((M r0 3) + (nI 1)))) fun M1 =>
  ob1 (F_Rows_write r0 wd mo (nI 0) a_ M1) fun M3 =>
  ob1 (F_Rows_write r0 wd mo (nI 1) b_ M3) fun M5 =>
  ob1 (F_Rows_write r0 wd mo (nI 2) c_ M5) fun M7 =>
  ob1 (F_Rows_write r0 wd mo (nI 3) d_ M7) fun M9 =>
  ob1 (F_Rows_write r0 wd mo (nI 4) e_ M9) fun M11 =>
  some M11
theorem s_Rows_add {r0 : Nat} {wd : Nat} {mo : Nat} {a_ : Int32} {b_ : Int32} {c_ : Int32} {d_ : Int32} {e_ : Int32} {M : mM} {M' : mM} (hr : isR r0 wd mo) (h : F_Rows_add r0 wd mo a_ b_ c_ d_ e_ M = some M') (hq : Q none (lay M')) : Sp X (d + 1) f_Rows_add [.ref r0, .int a_, .int b_, .int c_, .int d_, .int e_] (lay M) Q := by
  refine Sp_of (by decide) rfl (Nat.le_of_ble_eq_true rfl) ?_
  refine wp_aload_n d_Rows_add_0 rfl rfl ?_
  refine wl_callV0 d_Rows_add_1 lc_Rows_isFull lv_Rows_23 rfl (isR0 hr) rfl rfl ⟨rfl, rfl⟩ ⟨by decide, by decide⟩ ?_
  refine s_Rows_isFull (d := d) hr rfl ?_
  refine wc_eq 8 d_Rows_add_4 rfl (fun h4 => ?_) (fun h4 => ?_)
  · replace h := inn h h4
    refine wp_aload_n d_Rows_add_8 rfl rfl ?_
    refine wp_dup d_Rows_add_9 rfl ?_
    refine wl_getI d_Rows_add_10 lf_Rows_7 (isR0 hr) rfl rfl ?_
    refine wp_iconst d_Rows_add_13 (v := nI 1) rfl ?_
    refine wp_iadd d_Rows_add_14 ?_
    refine wl_put d_Rows_add_15 lp_Rows_7 (isR0 hr) rfl ⟨rfl, rfl⟩ ?_
    obtain ⟨M1, e2, h⟩ := ob1_some h
    refine wx_M e2 ?_
    refine wp_aload_n d_Rows_add_18 rfl rfl ?_
    refine wp_iconst d_Rows_add_19 (v := nI 0) rfl ?_
    refine wp_iload_n d_Rows_add_20 rfl rfl ?_
    obtain ⟨M3, e4, h⟩ := ob1_some h
    refine wl_callV2 d_Rows_add_21 lc_Rows_write lv_Rows_27 rfl (isR0 hr) rfl rfl ⟨rfl, rfl⟩ ⟨by decide, by decide⟩ ?_
    refine s_Rows_write (d := d) hr e4 ?_
    refine wp_aload_n d_Rows_add_24 rfl rfl ?_
    refine wp_iconst d_Rows_add_25 (v := nI 1) rfl ?_
    refine wp_iload_n d_Rows_add_26 rfl rfl ?_
    obtain ⟨M5, e6, h⟩ := ob1_some h
    refine wl_callV2 d_Rows_add_27 lc_Rows_write lv_Rows_27 rfl (isR0 hr) rfl rfl ⟨rfl, rfl⟩ ⟨by decide, by decide⟩ ?_
    refine s_Rows_write (d := d) hr e6 ?_
    refine wp_aload_n d_Rows_add_30 rfl rfl ?_
    refine wp_iconst d_Rows_add_31 (v := nI 2) rfl ?_
    refine wp_iload_n d_Rows_add_32 rfl rfl ?_
    obtain ⟨M7, e8, h⟩ := ob1_some h
    refine wl_callV2 d_Rows_add_33 lc_Rows_write lv_Rows_27 rfl (isR0 hr) rfl rfl ⟨rfl, rfl⟩ ⟨by decide, by decide⟩ ?_
    refine s_Rows_write (d := d) hr e8 ?_
    refine wp_aload_n d_Rows_add_36 rfl rfl ?_
    refine wp_iconst d_Rows_add_37 (v := nI 3) rfl ?_
    refine wp_iload d_Rows_add_38 rfl ?_
    obtain ⟨M9, e10, h⟩ := ob1_some h
    refine wl_callV2 d_Rows_add_40 lc_Rows_write lv_Rows_27 rfl (isR0 hr) rfl rfl ⟨rfl, rfl⟩ ⟨by decide, by decide⟩ ?_
    refine s_Rows_write (d := d) hr e10 ?_
    refine wp_aload_n d_Rows_add_43 rfl rfl ?_
    refine wp_iconst d_Rows_add_44 (v := nI 4) rfl ?_
    refine wp_iload d_Rows_add_45 rfl ?_
    obtain ⟨M11, e12, h⟩ := ob1_some h
    refine wl_callV2 d_Rows_add_47 lc_Rows_write lv_Rows_27 rfl (isR0 hr) rfl rfl ⟨rfl, rfl⟩ ⟨by decide, by decide⟩ ?_
    refine s_Rows_write (d := d) hr e12 ?_
    cases h
    exact wp_ret d_Rows_add_50 rfl rfl hq
  · replace h := ip h h4
    cases h
    exact wp_ret d_Rows_add_7 rfl rfl hq
def F_World_write (w : Nat) (what_ : Int32) (which_ : Int32) (much_ : Int32) (M : mM) : Option mM :=
  ob1 (F_Rows_add (w + 5) 4 150 (M w 12) what_ which_ much_ (nI 0) M) fun M1 =>
  some M1
theorem s_World_write {w : Nat} {what_ : Int32} {which_ : Int32} {much_ : Int32} {M : mM} {M' : mM} (hw : isW w) (h : F_World_write w what_ which_ much_ M = some M') (hq : Q none (lay M')) : Sp X (d + 2) f_World_write [.ref w, .int what_, .int which_, .int much_] (lay M) Q := by
  refine Sp_of (by decide) rfl (Nat.le_of_ble_eq_true rfl) ?_
  refine wp_aload_n d_World_write_0 rfl rfl ?_
  refine wl_getR d_World_write_1 lf_World_32 (shW0 hw) rfl ?_
  refine wp_aload_n d_World_write_4 rfl rfl ?_
  refine wl_getI d_World_write_5 lf_World_58 (shW0 hw) rfl rfl ?_
  refine wp_iload_n d_World_write_8 rfl rfl ?_
  refine wp_iload_n d_World_write_9 rfl rfl ?_
  refine wp_iload_n d_World_write_10 rfl rfl ?_
  refine wp_iconst d_World_write_11 (v := nI 0) rfl ?_
  obtain ⟨M1, e2, h⟩ := ob1_some h
  refine wl_callV5 d_World_write_12 lc_Rows_add lv_World_128 rfl (isR0 (isR_book hw)) rfl rfl ⟨rfl, rfl⟩ ⟨by decide, by decide⟩ ?_
  refine s_Rows_add (d := d) (isR_book hw) e2 ?_
  cases h
  exact wp_ret d_World_write_15 rfl rfl hq
def F_World_settle (w : Nat) (c_newcomer : Nat) (M : mM) : Option (Int32 × mM) :=
  ob1 (wa M (w + 3) 60 (M c_newcomer 4) (M c_newcomer 0)) fun M2 =>
  ob1 (some (up M2 w 5 ((M2 w 5) + (nI 1)))) fun M3 =>
  ob1 (some (up M3 w 9 ((M3 w 9) + (nI 1)))) fun M5 =>
  ob1 (F_World_write w (nI 0) (M5 c_newcomer 0) (M5 c_newcomer 4) M5) fun M7 =>
  some (M7 c_newcomer 0, M7)
theorem s_World_settle {w : Nat} {c_newcomer : Nat} {M : mM} {r : Int32} {M' : mM} (hw : isW w) (hc_newcomer : isTh c_newcomer = true) (h : F_World_settle w c_newcomer M = some (r, M')) (hq : Q (some (.int r)) (lay M')) : Sp X (d + 3) f_World_settle [.ref w, .ref c_newcomer] (lay M) Q := by
  refine Sp_of (by decide) rfl (Nat.le_of_ble_eq_true rfl) ?_
  refine wp_aload_n d_World_settle_0 rfl rfl ?_
  refine wl_getR d_World_settle_1 lf_World_18 (shW0 hw) rfl ?_
  refine wp_aload_n d_World_settle_4 rfl rfl ?_
  refine wl_getI d_World_settle_5 lf_World_111 (shTh hc_newcomer) rfl rfl ?_
  refine wp_aload_n d_World_settle_8 rfl rfl ?_
  refine wl_getI d_World_settle_9 lf_World_85 (shTh hc_newcomer) rfl rfl ?_
  obtain ⟨M2, e1, h⟩ := ob1_some h
  refine wa_ast d_World_settle_12 (shW3 hw) e1 ?_
  refine wp_aload_n d_World_settle_13 rfl rfl ?_
  refine wp_dup d_World_settle_14 rfl ?_
  refine wl_getI d_World_settle_15 lf_World_36 (shW0 hw) rfl rfl ?_
  refine wp_iconst d_World_settle_18 (v := nI 1) rfl ?_
  refine wp_iadd d_World_settle_19 ?_
  refine wl_put d_World_settle_20 lp_World_36 (shW0 hw) rfl ⟨rfl, rfl⟩ ?_
  obtain ⟨M3, e4, h⟩ := ob1_some h
  refine wx_M e4 ?_
  refine wp_aload_n d_World_settle_23 rfl rfl ?_
  refine wp_dup d_World_settle_24 rfl ?_
  refine wl_getI d_World_settle_25 lf_World_49 (shW0 hw) rfl rfl ?_
  refine wp_iconst d_World_settle_28 (v := nI 1) rfl ?_
  refine wp_iadd d_World_settle_29 ?_
  refine wl_put d_World_settle_30 lp_World_49 (shW0 hw) rfl ⟨rfl, rfl⟩ ?_
  obtain ⟨M5, e6, h⟩ := ob1_some h
  refine wx_M e6 ?_
  refine wp_aload_n d_World_settle_33 rfl rfl ?_
  refine wp_iconst d_World_settle_34 (v := nI 0) rfl ?_
  refine wp_aload_n d_World_settle_35 rfl rfl ?_
  refine wl_getI d_World_settle_36 lf_World_85 (shTh hc_newcomer) rfl rfl ?_
  refine wp_aload_n d_World_settle_39 rfl rfl ?_
  refine wl_getI d_World_settle_40 lf_World_111 (shTh hc_newcomer) rfl rfl ?_
  obtain ⟨M7, e8, h⟩ := ob1_some h
  refine wl_callV3 d_World_settle_43 lc_World_write lv_World_120 rfl (shW0 hw) rfl rfl ⟨rfl, rfl⟩ ⟨by decide, by decide⟩ ?_
  refine s_World_write (d := d) hw e8 ?_
  refine wp_aload_n d_World_settle_46 rfl rfl ?_
  refine wl_getI d_World_settle_47 lf_World_85 (shTh hc_newcomer) rfl rfl ?_
  cases h
  exact wp_iret d_World_settle_50 rfl rfl rfl hq
def F_Rec_put (z : Nat) (kind_ : Int32) (size_ : Int32) (life_ : Int32) (inch_ : Int32) (M : mM) : Option (Int32 × mM) :=
  if ((¬ ((F_Rec_within kind_ (nI 0) (nI 5)) = true) ∨ ¬ ((F_Rec_within size_ (nI 1) (nI 9)) = true)) ∨ ¬ ((F_Rec_within life_ (nI 0) (nI 9)) = true)) then
  some ((-1), M)
  else
  ob1 (ob1 (ob1 (F_World_hasRoom 1 inch_ M) fun v24 =>
  some (v24)) fun x22 => some (!x22)) fun x3 =>
  if x3 = true then
  some ((-1), M)
  else
  ob1 (F_Rec_remember z M) fun M13 =>
  ob2 (F_World_newcomer 1 kind_ size_ life_ inch_ M13) fun c15 M16 =>
  ob1 (gTh c15) fun _ =>
  ob2 (F_World_settle 1 c15 M16) fun v19 M20 =>
  some (v19, M20)
theorem s_Rec_put {kind_ : Int32} {size_ : Int32} {life_ : Int32} {inch_ : Int32} {M : mM} {r : Int32} {M' : mM} (h : F_Rec_put z kind_ size_ life_ inch_ M = some (r, M')) (hq : Q (some (.int r)) (lay M')) : Sp X (d + 4) f_Rec_put [.ref 0, .int kind_, .int size_, .int life_, .int inch_] (lay M) Q := by
  refine Sp_of (by decide) rfl (Nat.le_of_ble_eq_true rfl) ?_
  have k1 : ((¬ ((F_Rec_within kind_ (nI 0) (nI 5)) = true) ∨ ¬ ((F_Rec_within size_ (nI 1) (nI 9)) = true)) ∨ ¬ ((F_Rec_within life_ (nI 0) (nI 9)) = true)) → wp X (d + 4) f_Rec_put (0, 0) 29 [.ref 0, .int kind_, .int size_, .int life_, .int inch_] [] (lay M) Q := by
    intro x2
    replace h := ip h x2
    refine wp_iconst d_Rec_put_29 (v := (-1)) rfl ?_
    cases h
    exact wp_iret d_Rec_put_30 rfl rfl rfl hq
  refine wp_iload_n d_Rec_put_0 rfl rfl ?_
  refine wp_iconst d_Rec_put_1 (v := nI 0) rfl ?_
  refine wp_iconst d_Rec_put_2 (v := nI 5) rfl ?_
  refine wl_callS3 d_Rec_put_3 lc_Rec_within ls_Rec_96 rfl ⟨rfl, rfl⟩ ⟨by decide, by decide⟩ ?_
  refine s_Rec_within (d := d + 3) rfl ?_
  refine wc_eq 29 d_Rec_put_6 rfl (fun h6 => ?_) (fun h6 => ?_)
  · exact k1 (Or.inl (Or.inl h6))
  · refine wp_iload_n d_Rec_put_9 rfl rfl ?_
    refine wp_iconst d_Rec_put_10 (v := nI 1) rfl ?_
    refine wp_bipush d_Rec_put_11 (v := nI 9) rfl ?_
    refine wl_callS3 d_Rec_put_13 lc_Rec_within ls_Rec_96 rfl ⟨rfl, rfl⟩ ⟨by decide, by decide⟩ ?_
    refine s_Rec_within (d := d + 3) rfl ?_
    refine wc_eq 29 d_Rec_put_16 rfl (fun h16 => ?_) (fun h16 => ?_)
    · exact k1 (Or.inl (Or.inr h16))
    · refine wp_iload_n d_Rec_put_19 rfl rfl ?_
      refine wp_iconst d_Rec_put_20 (v := nI 0) rfl ?_
      refine wp_bipush d_Rec_put_21 (v := nI 9) rfl ?_
      refine wl_callS3 d_Rec_put_23 lc_Rec_within ls_Rec_96 rfl ⟨rfl, rfl⟩ ⟨by decide, by decide⟩ ?_
      refine s_Rec_within (d := d + 3) rfl ?_
      refine wc_ne 31 d_Rec_put_26 rfl (fun h26 => ?_) (fun h26 => ?_)
      · replace h := inn h (fun z => z.elim (fun z => z.elim (fun z => z h6) (fun z => z h16)) (fun z => z h26))
        obtain ⟨x3, e4, h⟩ := ob1_some h
        have k9 : x3 = true → wp X (d + 4) f_Rec_put (0, 0) 43 [.ref 0, .int kind_, .int size_, .int life_, .int inch_] [] (lay M) Q := by
          intro x10
          replace h := ip h x10
          refine wp_iconst d_Rec_put_43 (v := (-1)) rfl ?_
          cases h
          exact wp_iret d_Rec_put_44 rfl rfl rfl hq
        have k11 : ¬ x3 = true → wp X (d + 4) f_Rec_put (0, 0) 45 [.ref 0, .int kind_, .int size_, .int life_, .int inch_] [] (lay M) Q := by
          intro x12
          replace h := inn h x12
          refine wp_aload_n d_Rec_put_45 rfl rfl ?_
          obtain ⟨M13, e14, h⟩ := ob1_some h
          refine wl_callV0 d_Rec_put_46 lc_Rec_remember lv_Rec_125 rfl sh_0 rfl rfl ⟨rfl, rfl⟩ ⟨by decide, by decide⟩ ?_
          refine s_Rec_remember (d := d) e14 ?_
          refine wp_aload_n d_Rec_put_49 rfl rfl ?_
          refine wl_getR d_Rec_put_50 lf_Rec_12 sh_0 rfl ?_
          refine wp_aload_n d_Rec_put_53 rfl rfl ?_
          refine wl_getR d_Rec_put_54 lf_Rec_12 sh_0 rfl ?_
          refine wp_iload_n d_Rec_put_57 rfl rfl ?_
          refine wp_iload_n d_Rec_put_58 rfl rfl ?_
          refine wp_iload_n d_Rec_put_59 rfl rfl ?_
          refine wp_iload d_Rec_put_60 rfl ?_
          obtain ⟨c15, M16, e17, h⟩ := ob2_some h
          refine wl_callV4 d_Rec_put_62 lc_World_newcomer lv_Rec_128 rfl (shW0 isW_1) rfl rfl ⟨rfl, rfl⟩ ⟨by decide, by decide⟩ ?_
          refine s_World_newcomer (d := d + 2) isW_1 e17 ?_
          obtain ⟨_, e18, h⟩ := ob1_some h
          have tc15 := gT_th e18
          obtain ⟨v19, M20, e21, h⟩ := ob2_some h
          refine wl_callV1 d_Rec_put_65 lc_World_settle lv_Rec_132 rfl (shW0 isW_1) rfl rfl ⟨rfl, rfl⟩ ⟨by decide, by decide⟩ ?_
          refine s_World_settle (d := d) isW_1 tc15 e21 ?_
          cases h
          exact wp_iret d_Rec_put_68 rfl rfl rfl hq
        obtain ⟨x22, e23, e4⟩ := ob1_some e4
        cases e4
        refine wp_aload_n d_Rec_put_31 rfl rfl ?_
        refine wl_getR d_Rec_put_32 lf_Rec_12 sh_0 rfl ?_
        refine wp_iload d_Rec_put_35 rfl ?_
        obtain ⟨v24, e25, e23⟩ := ob1_some e23
        refine wl_callV1 d_Rec_put_37 lc_World_hasRoom lv_Rec_121 rfl (shW0 isW_1) rfl rfl ⟨rfl, rfl⟩ ⟨by decide, by decide⟩ ?_
        refine s_World_hasRoom (d := d + 3) isW_1 e25 ?_
        refine wc_ne 45 d_Rec_put_40 rfl (fun h40 => ?_) (fun h40 => ?_)
        · cases e23
          exact k11 (nb_t h40)
        · cases e23
          exact k9 (nb_f h40)
      · exact k1 (Or.inr h26)
end S140
