/-! methods as functions: printed by program -/
section S147
variable {X : mXs} {d z : Nat} {Q : Option Value → mH → Prop}
def L_Asker_longestBelow_1 (z : Nat) (w_world : Nat) (inch_ : Int32) (age_ : Int32) (M : mM) : Nat → Int32 → Int32 → Option (Int32)
  | 0, _, _ => none
  | n + 1, most_, i_ =>
    if i_ < inch_ then
    ob1 (ob1 (ob1 (ra M 139 60 i_) fun v54 =>
    some (decide (most_ < v54))) fun x43 =>
    if x43 = true then
    ob1 (F_World_thingAt z w_world i_ M) fun c49 =>
    some (c49)
    else
    some (none)) fun c14 =>
    ob1 (ob1 (if ¬ (c14 = none) then ob1 (dT c14) fun c41 =>
    some (decide ((M c41 5) < age_))
    else some (false)) fun x31 =>
    if x31 = true then
    ob1 (ra M 139 60 i_) fun v38 =>
    some (v38)
    else
    some (most_)) fun most_29 =>
    L_Asker_longestBelow_1 z w_world inch_ age_ M n most_29 (i_ + nI 1)
    else
    some (most_)
def F_Asker_longestBelow (z : Nat) (w_world : Nat) (inch_ : Int32) (age_ : Int32) (M : mM) : Option (Int32) :=
  ob1 (L_Asker_longestBelow_1 z w_world inch_ age_ M z (nI 0) (nI 0)) fun most_55 =>
  some (most_55)
theorem l_Asker_longestBelow_1 {w_world : Nat} {inch_ : Int32} {age_ : Int32} {M : mM}  {most_r : Int32} (hw_world : isW w_world) (K : ∀ u5 u6 : Value, wp X (d + 3) f_Asker_longestBelow (0, 0) 65 [.ref 136, .ref w_world, .int inch_, .int age_, .int most_r, u5, u6] [] (lay M) Q) : ∀ (n : Nat) (most_ : Int32) (i_ : Int32) (u6 : Value), L_Asker_longestBelow_1 z w_world inch_ age_ M n most_ i_ = some (most_r) → wp X (d + 3) f_Asker_longestBelow (0, 0) 6 [.ref 136, .ref w_world, .int inch_, .int age_, .int most_, .int i_, u6] [] (lay M) Q := by
  intro n
  induction n with
  | zero => intro most_ i_ u6 h; exact nn h
  | succ n ih =>
    intro most_ i_ u6 h
    refine wp_iload d_Asker_longestBelow_6 rfl ?_
    refine wp_iload_n d_Asker_longestBelow_8 rfl rfl ?_
    refine wq_icmp_ge 65 d_Asker_longestBelow_9 rfl (fun h9 => ?_) (fun h9 => ?_)
    · replace h := inn h h9
      cases h
      exact K _ _
    · replace h := ip h h9
      obtain ⟨c14, e15, h⟩ := ob1_some h
      have k13 : ∀ u6 : Value, wp X (d + 3) f_Asker_longestBelow (0, 0) 34 [.ref 136, .ref w_world, .int inch_, .int age_, .int most_, .int i_, u6] [rvO c14] (lay M) Q := by
        intro u6
        refine wr_astore d_Asker_longestBelow_34 (by decide) ?_
        obtain ⟨most_29, e30, h⟩ := ob1_some h
        have k28 : wp X (d + 3) f_Asker_longestBelow (0, 0) 59 [.ref 136, .ref w_world, .int inch_, .int age_, .int most_29, .int i_, rvO c14] [] (lay M) Q := by
          refine wp_iinc d_Asker_longestBelow_59 (v := i_ + nI 1) rfl rfl ?_
          refine wp_goto 6 d_Asker_longestBelow_62 rfl ?_
          exact ih _ _ _ h
        obtain ⟨x31, e32, e30⟩ := ob1_some e30
        have k35 : x31 = true → wp X (d + 3) f_Asker_longestBelow (0, 0) 50 [.ref 136, .ref w_world, .int inch_, .int age_, .int most_, .int i_, rvO c14] [] (lay M) Q := by
          intro x36
          replace e30 := ip e30 x36
          refine wp_aload_n d_Asker_longestBelow_50 rfl rfl ?_
          refine wl_getR d_Asker_longestBelow_51 lf_Asker_18 sh_136 rfl ?_
          refine wp_iload d_Asker_longestBelow_54 rfl ?_
          obtain ⟨v38, e37, e30⟩ := ob1_some e30
          refine wa_ald d_Asker_longestBelow_56 sh_139 e37 ?_
          refine wp_istore d_Asker_longestBelow_57 (by decide) ?_
          cases e30
          exact k28
        have k39 : ¬ x31 = true → wp X (d + 3) f_Asker_longestBelow (0, 0) 59 [.ref 136, .ref w_world, .int inch_, .int age_, .int most_, .int i_, rvO c14] [] (lay M) Q := by
          intro x40
          replace e30 := inn e30 x40
          cases e30
          exact k28
        refine wr_aload d_Asker_longestBelow_36 rfl ?_
        refine wr_ifnull 59 d_Asker_longestBelow_38 rfl (fun h38 => ?_) (fun h38 => ?_)
        · replace e32 := inn e32 (fun z => z h38)
          cases e32
          exact k39 (fun z => Bool.noConfusion z)
        · replace e32 := ip e32 h38
          refine wr_aload d_Asker_longestBelow_41 rfl ?_
          obtain ⟨c41, e42, e32⟩ := ob1_some e32
          refine wr_deref e42 ?_
          have tc41 := dT_th e42
          refine wl_getI d_Asker_longestBelow_43 lf_Asker_74 (shTh tc41) rfl rfl ?_
          refine wp_iload_n d_Asker_longestBelow_46 rfl rfl ?_
          refine wq_icmp_ge 59 d_Asker_longestBelow_47 rfl (fun h47 => ?_) (fun h47 => ?_)
          · cases e32
            exact k39 (fun z => h47 (of_decide_eq_true z))
          · cases e32
            exact k35 (decide_eq_true h47)
      obtain ⟨x43, e44, e15⟩ := ob1_some e15
      have k47 : ∀ u6 : Value, x43 = true → wp X (d + 3) f_Asker_longestBelow (0, 0) 24 [.ref 136, .ref w_world, .int inch_, .int age_, .int most_, .int i_, u6] [] (lay M) Q := by
        intro u6 x48
        replace e15 := ip e15 x48
        refine wp_aload_n d_Asker_longestBelow_24 rfl rfl ?_
        refine wp_iload d_Asker_longestBelow_25 rfl ?_
        obtain ⟨c49, e50, e15⟩ := ob1_some e15
        refine wl_callV1 d_Asker_longestBelow_27 lc_World_thingAt lv_Asker_50 rfl (shW0 hw_world) rfl rfl ⟨rfl, rfl⟩ ⟨by decide, by decide⟩ ?_
        refine s_World_thingAt (d := d) hw_world e50 ?_
        cases e15
        refine wp_goto 34 d_Asker_longestBelow_30 rfl ?_
        exact k13 _
      have k51 : ∀ u6 : Value, ¬ x43 = true → wp X (d + 3) f_Asker_longestBelow (0, 0) 33 [.ref 136, .ref w_world, .int inch_, .int age_, .int most_, .int i_, u6] [] (lay M) Q := by
        intro u6 x52
        replace e15 := inn e15 x52
        refine wp_null d_Asker_longestBelow_33 ?_
        cases e15
        exact k13 _
      refine wp_aload_n d_Asker_longestBelow_12 rfl rfl ?_
      refine wl_getR d_Asker_longestBelow_13 lf_Asker_18 sh_136 rfl ?_
      refine wp_iload d_Asker_longestBelow_16 rfl ?_
      obtain ⟨v54, e53, e44⟩ := ob1_some e44
      refine wa_ald d_Asker_longestBelow_18 sh_139 e53 ?_
      refine wp_iload d_Asker_longestBelow_19 rfl ?_
      refine wq_icmp_le 33 d_Asker_longestBelow_21 rfl (fun h21 => ?_) (fun h21 => ?_)
      · cases e44
        exact k51 _ (fun z => h21 (of_decide_eq_true z))
      · cases e44
        exact k47 _ (decide_eq_true h21)
theorem s_Asker_longestBelow {w_world : Nat} {inch_ : Int32} {age_ : Int32} {M : mM} {r : Int32} (hw_world : isW w_world) (h : F_Asker_longestBelow z w_world inch_ age_ M = some r) (hq : Q (some (.int r)) (lay M)) : Sp X (d + 3) f_Asker_longestBelow [.ref 136, .ref w_world, .int inch_, .int age_] (lay M) Q := by
  refine Sp_of (by decide) rfl (Nat.le_of_ble_eq_true rfl) ?_
  refine wp_iconst d_Asker_longestBelow_0 (v := nI 0) rfl ?_
  refine wp_istore d_Asker_longestBelow_1 (by decide) ?_
  refine wp_iconst d_Asker_longestBelow_3 (v := nI 0) rfl ?_
  refine wp_istore d_Asker_longestBelow_4 (by decide) ?_
  obtain ⟨most_55, e56, h⟩ := ob1_some h
  refine l_Asker_longestBelow_1 hw_world ?_ _ _ _ _ e56
  intro u5 u6
  refine wp_iload d_Asker_longestBelow_65 rfl ?_
  cases h
  exact wp_iret d_Asker_longestBelow_67 rfl rfl rfl hq
def L_Asker_longest_1 (z : Nat) (w_world : Nat) : Nat → Int32 → Int32 → mM → Option (Int32 × mM)
  | 0, _, _, _ => none
  | n + 1, most_, i_, M =>
    if i_ < (nI 60) then
    ob1 (F_World_thingAt z w_world i_ M) fun c1 =>
    ob1 (if c1 = none then
    some (nI 0)
    else
    ob1 (dT c1) fun c14 =>
    ob1 (F_Asker_longestBelow z w_world i_ (M c14 5) M) fun v16 =>
    some ((nI 1) + v16)) fun v8 =>
    ob1 (wa M 139 60 i_ v8) fun M11 =>
    ob1 (ra M11 139 60 i_) fun v13 =>
    L_Asker_longest_1 z w_world n (F_Math_max most_ v13) (i_ + nI 1) M11
    else
    some (most_, M)
def F_Asker_longest (z : Nat) (w_world : Nat) (M : mM) : Option (Int32 × mM) :=
  ob2 (L_Asker_longest_1 z w_world z (nI 0) (nI 0) M) fun most_18 M19 =>
  some (most_18, M19)
theorem l_Asker_longest_1 {w_world : Nat}  {most_r : Int32} {N' : mM} (hw_world : isW w_world) (K : ∀ u3 u4 : Value, wp X (d + 4) f_Asker_longest (0, 0) 62 [.ref 136, .ref w_world, .int most_r, u3, u4] [] (lay N') Q) : ∀ (n : Nat) (most_ : Int32) (i_ : Int32) (M : mM) (u4 : Value), L_Asker_longest_1 z w_world n most_ i_ M = some (most_r, N') → wp X (d + 4) f_Asker_longest (0, 0) 4 [.ref 136, .ref w_world, .int most_, .int i_, u4] [] (lay M) Q := by
  intro n
  induction n with
  | zero => intro most_ i_ M u4 h; exact nn h
  | succ n ih =>
    intro most_ i_ M u4 h
    refine wp_iload_n d_Asker_longest_4 rfl rfl ?_
    refine wp_bipush d_Asker_longest_5 (v := nI 60) rfl ?_
    refine wq_icmp_ge 62 d_Asker_longest_7 rfl (fun h7 => ?_) (fun h7 => ?_)
    · replace h := inn h h7
      cases h
      exact K _ _
    · replace h := ip h h7
      refine wp_aload_n d_Asker_longest_10 rfl rfl ?_
      refine wp_iload_n d_Asker_longest_11 rfl rfl ?_
      obtain ⟨c1, e2, h⟩ := ob1_some h
      refine wl_callV1 d_Asker_longest_12 lc_World_thingAt lv_Asker_50 rfl (shW0 hw_world) rfl rfl ⟨rfl, rfl⟩ ⟨by decide, by decide⟩ ?_
      refine s_World_thingAt (d := d + 1) hw_world e2 ?_
      refine wr_astore d_Asker_longest_15 (by decide) ?_
      refine wp_aload_n d_Asker_longest_17 rfl rfl ?_
      refine wl_getR d_Asker_longest_18 lf_Asker_18 sh_136 rfl ?_
      refine wp_iload_n d_Asker_longest_21 rfl rfl ?_
      obtain ⟨v8, e9, h⟩ := ob1_some h
      have k7 : wp X (d + 4) f_Asker_longest (0, 0) 44 [.ref 136, .ref w_world, .int most_, .int i_, rvO c1] [.int v8, .int i_, .ref 139] (lay M) Q := by
        obtain ⟨M11, e10, h⟩ := ob1_some h
        refine wa_ast d_Asker_longest_44 sh_139 e10 ?_
        refine wp_iload_n d_Asker_longest_45 rfl rfl ?_
        refine wp_aload_n d_Asker_longest_46 rfl rfl ?_
        refine wl_getR d_Asker_longest_47 lf_Asker_18 sh_136 rfl ?_
        refine wp_iload_n d_Asker_longest_50 rfl rfl ?_
        obtain ⟨v13, e12, h⟩ := ob1_some h
        refine wa_ald d_Asker_longest_51 sh_139 e12 ?_
        refine wl_mmax d_Asker_longest_52 ls_Asker_81 rfl ⟨by decide, by decide⟩ ?_
        refine wp_istore_n d_Asker_longest_55 rfl (by decide) ?_
        refine wp_iinc d_Asker_longest_56 (v := i_ + nI 1) rfl rfl ?_
        refine wp_goto 4 d_Asker_longest_59 rfl ?_
        exact ih _ _ _ _ h
      refine wr_aload d_Asker_longest_22 rfl ?_
      refine wr_ifnonnull 31 d_Asker_longest_24 rfl (fun h24 => ?_) (fun h24 => ?_)
      · replace e9 := inn e9 h24
        refine wp_iconst d_Asker_longest_31 (v := nI 1) rfl ?_
        refine wp_aload_n d_Asker_longest_32 rfl rfl ?_
        refine wp_aload_n d_Asker_longest_33 rfl rfl ?_
        refine wp_iload_n d_Asker_longest_34 rfl rfl ?_
        refine wr_aload d_Asker_longest_35 rfl ?_
        obtain ⟨c14, e15, e9⟩ := ob1_some e9
        refine wr_deref e15 ?_
        have tc14 := dT_th e15
        refine wl_getI d_Asker_longest_37 lf_Asker_74 (shTh tc14) rfl rfl ?_
        obtain ⟨v16, e17, e9⟩ := ob1_some e9
        refine wl_callV3 d_Asker_longest_40 lc_Asker_longestBelow lv_Asker_77 rfl sh_136 rfl rfl ⟨rfl, rfl⟩ ⟨by decide, by decide⟩ ?_
        refine s_Asker_longestBelow (d := d) hw_world e17 ?_
        refine wp_iadd d_Asker_longest_43 ?_
        cases e9
        exact k7
      · replace e9 := ip e9 h24
        refine wp_iconst d_Asker_longest_27 (v := nI 0) rfl ?_
        cases e9
        refine wp_goto 44 d_Asker_longest_28 rfl ?_
        exact k7
theorem s_Asker_longest {w_world : Nat} {M : mM} {r : Int32} {M' : mM} (hw_world : isW w_world) (h : F_Asker_longest z w_world M = some (r, M')) (hq : Q (some (.int r)) (lay M')) : Sp X (d + 4) f_Asker_longest [.ref 136, .ref w_world] (lay M) Q := by
  refine Sp_of (by decide) rfl (Nat.le_of_ble_eq_true rfl) ?_
  refine wp_iconst d_Asker_longest_0 (v := nI 0) rfl ?_
  refine wp_istore_n d_Asker_longest_1 rfl (by decide) ?_
  refine wp_iconst d_Asker_longest_2 (v := nI 0) rfl ?_
  refine wp_istore_n d_Asker_longest_3 rfl (by decide) ?_
  obtain ⟨most_18, M19, e20, h⟩ := ob2_some h
  refine l_Asker_longest_1 hw_world ?_ _ _ _ _ _ e20
  intro u3 u4
  refine wp_iload_n d_Asker_longest_62 rfl rfl ?_
  cases h
  exact wp_iret d_Asker_longest_63 rfl rfl rfl hq
def L_Asker_ways_2 (z : Nat) (w_world : Nat) (r_row : Nat) (wd_row : Nat) (mo_row : Nat) (t_ : Option Nat) : Nat → Int32 → mM → Option (mM)
  | 0, _, _ => none
  | n + 1, j_, M =>
    if (¬ (j_ < (nI 0)) ∧ ¬ (t_ = none)) then
    ob1 (ob1 (ob1 (F_Rows_get r_row wd_row mo_row j_ (nI 0) M) fun v52 =>
    ob1 (dT t_) fun c54 =>
    some (decide (v52 = (M c54 1)))) fun x34 =>
    if x34 = true then
    ob1 (ra M 140 9 (j_ + (nI 1))) fun v43 =>
    ob1 (ra M 140 9 j_) fun v45 =>
    ob1 (some (jrem (v43 + v45) (nI 1000000007))) fun v46 =>
    ob1 (wa M 140 9 (j_ + (nI 1)) v46) fun M49 =>
    some (M49)
    else
    some (M)) fun M32 =>
    L_Asker_ways_2 z w_world r_row wd_row mo_row t_ n (j_ + (-1)) M32
    else
    some (M)
def L_Asker_ways_1 (z : Nat) (w_world : Nat) (r_row : Nat) (wd_row : Nat) (mo_row : Nat) : Nat → Int32 → mM → Option (mM)
  | 0, _, _ => none
  | n + 1, i_, M =>
    if i_ < (nI 60) then
    ob1 (F_World_thingAt z w_world i_ M) fun c5 =>
    ob1 (L_Asker_ways_2 z w_world r_row wd_row mo_row c5 z ((M r_row 3) - (nI 1)) M) fun M56 =>
    L_Asker_ways_1 z w_world r_row wd_row mo_row n (i_ + nI 1) M56
    else
    some (M)
def F_Asker_ways (z : Nat) (w_world : Nat) (r_row : Nat) (wd_row : Nat) (mo_row : Nat) (many_ : Bool) (M : mM) : Option (Int32 × mM) :=
  ob1 (F_Arrays_fill z 140 9 (nI 0) M) fun M1 =>
  ob1 (wa M1 140 9 (nI 0) (nI 1)) fun M4 =>
  ob1 (L_Asker_ways_1 z w_world r_row wd_row mo_row z (nI 0) M4) fun M58 =>
  ob1 (if many_ = true then
  ob1 (ra M58 140 9 (M58 r_row 3)) fun v69 =>
  some (v69)
  else
  ob1 (ra M58 140 9 (M58 r_row 3)) fun v67 =>
  some (F_Math_min v67 (nI 1))) fun v64 =>
  some (v64, M58)
theorem l_Asker_ways_2 {w_world : Nat} {r_row : Nat} {wd_row : Nat} {mo_row : Nat} {t_ : Option Nat}  {q3 : Value} {q4 : Value} {N' : mM} (hw_world : isW w_world) (hr_row : isR r_row wd_row mo_row) (K : ∀ u6 : Value, wp X (d + 3) f_Asker_ways (0, 0) 101 [.ref 136, .ref w_world, .ref r_row, q3, q4, rvO t_, u6] [] (lay N') Q) : ∀ (n : Nat) (j_ : Int32) (M : mM), L_Asker_ways_2 z w_world r_row wd_row mo_row t_ n j_ M = some (N') → wp X (d + 3) f_Asker_ways (0, 0) 41 [.ref 136, .ref w_world, .ref r_row, q3, q4, rvO t_, .int j_] [] (lay M) Q := by
  intro n
  induction n with
  | zero => intro j_ M h; exact nn h
  | succ n ih =>
    intro j_ M h
    have k7 : ¬ (¬ (j_ < (nI 0)) ∧ ¬ (t_ = none)) → wp X (d + 3) f_Asker_ways (0, 0) 101 [.ref 136, .ref w_world, .ref r_row, q3, q4, rvO t_, .int j_] [] (lay M) Q := by
      intro x8
      replace h := inn h x8
      cases h
      exact K _
    refine wp_iload d_Asker_ways_41 rfl ?_
    refine wz_lt 101 d_Asker_ways_43 rfl (fun h43 => ?_) (fun h43 => ?_)
    · exact k7 (fun z => (fun z => z h43) z.1)
    · refine wr_aload d_Asker_ways_46 rfl ?_
      refine wr_ifnull 101 d_Asker_ways_48 rfl (fun h48 => ?_) (fun h48 => ?_)
      · exact k7 (fun z => (fun z => z h48) z.2)
      · replace h := ip h ⟨h43, h48⟩
        obtain ⟨M32, e33, h⟩ := ob1_some h
        have k31 : wp X (d + 3) f_Asker_ways (0, 0) 95 [.ref 136, .ref w_world, .ref r_row, q3, q4, rvO t_, .int j_] [] (lay M32) Q := by
          refine wp_iinc d_Asker_ways_95 (v := j_ + (-1)) rfl rfl ?_
          refine wp_goto 41 d_Asker_ways_98 rfl ?_
          exact ih _ _ h
        obtain ⟨x34, e35, e33⟩ := ob1_some e33
        have k40 : x34 = true → wp X (d + 3) f_Asker_ways (0, 0) 66 [.ref 136, .ref w_world, .ref r_row, q3, q4, rvO t_, .int j_] [] (lay M) Q := by
          intro x41
          replace e33 := ip e33 x41
          refine wp_aload_n d_Asker_ways_66 rfl rfl ?_
          refine wl_getR d_Asker_ways_67 lf_Asker_21 sh_136 rfl ?_
          refine wp_iload d_Asker_ways_70 rfl ?_
          refine wp_iconst d_Asker_ways_72 (v := nI 1) rfl ?_
          refine wp_iadd d_Asker_ways_73 ?_
          refine wp_aload_n d_Asker_ways_74 rfl rfl ?_
          refine wl_getR d_Asker_ways_75 lf_Asker_21 sh_136 rfl ?_
          refine wp_iload d_Asker_ways_78 rfl ?_
          refine wp_iconst d_Asker_ways_80 (v := nI 1) rfl ?_
          refine wp_iadd d_Asker_ways_81 ?_
          obtain ⟨v43, e42, e33⟩ := ob1_some e33
          refine wa_ald d_Asker_ways_82 sh_140 e42 ?_
          refine wp_aload_n d_Asker_ways_83 rfl rfl ?_
          refine wl_getR d_Asker_ways_84 lf_Asker_21 sh_136 rfl ?_
          refine wp_iload d_Asker_ways_87 rfl ?_
          obtain ⟨v45, e44, e33⟩ := ob1_some e33
          refine wa_ald d_Asker_ways_89 sh_140 e44 ?_
          refine wp_iadd d_Asker_ways_90 ?_
          refine wp_ldc (v := nI 1000000007) d_Asker_ways_91 lk_Asker_68 ?_
          refine wp_irem d_Asker_ways_93 (by decide) ?_
          obtain ⟨v46, e47, e33⟩ := ob1_some e33
          refine wx_int e47 ?_
          obtain ⟨M49, e48, e33⟩ := ob1_some e33
          refine wa_ast d_Asker_ways_94 sh_140 e48 ?_
          cases e33
          exact k31
        have k50 : ¬ x34 = true → wp X (d + 3) f_Asker_ways (0, 0) 95 [.ref 136, .ref w_world, .ref r_row, q3, q4, rvO t_, .int j_] [] (lay M) Q := by
          intro x51
          replace e33 := inn e33 x51
          cases e33
          exact k31
        refine wp_aload_n d_Asker_ways_51 rfl rfl ?_
        refine wp_iload d_Asker_ways_52 rfl ?_
        refine wp_iconst d_Asker_ways_54 (v := nI 0) rfl ?_
        obtain ⟨v52, e53, e35⟩ := ob1_some e35
        refine wl_callV2 d_Asker_ways_55 lc_Rows_get lv_Asker_59 rfl (isR0 hr_row) rfl rfl ⟨rfl, rfl⟩ ⟨by decide, by decide⟩ ?_
        refine s_Rows_get (d := d + 2) hr_row e53 ?_
        refine wr_aload d_Asker_ways_58 rfl ?_
        obtain ⟨c54, e55, e35⟩ := ob1_some e35
        refine wr_deref e55 ?_
        have tc54 := dT_th e55
        refine wl_getI d_Asker_ways_60 lf_Asker_63 (shTh tc54) rfl rfl ?_
        refine wq_icmp_ne 95 d_Asker_ways_63 rfl (fun h63 => ?_) (fun h63 => ?_)
        · cases e35
          exact k50 (fun z => h63 (of_decide_eq_true z))
        · cases e35
          exact k40 (decide_eq_true h63)
theorem l_Asker_ways_1 {w_world : Nat} {r_row : Nat} {wd_row : Nat} {mo_row : Nat}  {q3 : Value} {N' : mM} (hw_world : isW w_world) (hr_row : isR r_row wd_row mo_row) (K : ∀ u4 u5 u6 : Value, wp X (d + 3) f_Asker_ways (0, 0) 107 [.ref 136, .ref w_world, .ref r_row, q3, u4, u5, u6] [] (lay N') Q) : ∀ (n : Nat) (i_ : Int32) (M : mM) (u5 u6 : Value), L_Asker_ways_1 z w_world r_row wd_row mo_row n i_ M = some (N') → wp X (d + 3) f_Asker_ways (0, 0) 18 [.ref 136, .ref w_world, .ref r_row, q3, .int i_, u5, u6] [] (lay M) Q := by
  intro n
  induction n with
  | zero => intro i_ M u5 u6 h; exact nn h
  | succ n ih =>
    intro i_ M u5 u6 h
    refine wp_iload d_Asker_ways_18 rfl ?_
    refine wp_bipush d_Asker_ways_20 (v := nI 60) rfl ?_
    refine wq_icmp_ge 107 d_Asker_ways_22 rfl (fun h22 => ?_) (fun h22 => ?_)
    · replace h := inn h h22
      cases h
      exact K _ _ _
    · replace h := ip h h22
      refine wp_aload_n d_Asker_ways_25 rfl rfl ?_
      refine wp_iload d_Asker_ways_26 rfl ?_
      obtain ⟨c5, e6, h⟩ := ob1_some h
      refine wl_callV1 d_Asker_ways_28 lc_World_thingAt lv_Asker_50 rfl (shW0 hw_world) rfl rfl ⟨rfl, rfl⟩ ⟨by decide, by decide⟩ ?_
      refine s_World_thingAt (d := d) hw_world e6 ?_
      refine wr_astore d_Asker_ways_31 (by decide) ?_
      refine wp_aload_n d_Asker_ways_33 rfl rfl ?_
      refine wl_getI d_Asker_ways_34 lf_Asker_54 (isR0 hr_row) rfl rfl ?_
      refine wp_iconst d_Asker_ways_37 (v := nI 1) rfl ?_
      refine wp_isub d_Asker_ways_38 ?_
      refine wp_istore d_Asker_ways_39 (by decide) ?_
      obtain ⟨M56, e57, h⟩ := ob1_some h
      refine l_Asker_ways_2 hw_world hr_row ?_ _ _ _ e57
      intro u6
      refine wp_iinc d_Asker_ways_101 (v := i_ + nI 1) rfl rfl ?_
      refine wp_goto 18 d_Asker_ways_104 rfl ?_
      exact ih _ _ _ _ h
theorem s_Asker_ways {w_world : Nat} {r_row : Nat} {wd_row : Nat} {mo_row : Nat} {many_ : Bool} {M : mM} {r : Int32} {M' : mM} (hw_world : isW w_world) (hr_row : isR r_row wd_row mo_row) (h : F_Asker_ways z w_world r_row wd_row mo_row many_ M = some (r, M')) (hq : Q (some (.int r)) (lay M')) : Sp X (d + 3) f_Asker_ways [.ref 136, .ref w_world, .ref r_row, .int (bI many_)] (lay M) Q := by
  refine Sp_of (by decide) rfl (Nat.le_of_ble_eq_true rfl) ?_
  refine wp_aload_n d_Asker_ways_0 rfl rfl ?_
  refine wl_getR d_Asker_ways_1 lf_Asker_21 sh_136 rfl ?_
  refine wp_iconst d_Asker_ways_4 (v := nI 0) rfl ?_
  obtain ⟨M1, e2, h⟩ := ob1_some h
  refine wl_callS2 d_Asker_ways_5 lc_Arrays_fill ls_Asker_34 rfl ⟨rfl, rfl⟩ ⟨by decide, by decide⟩ ?_
  refine s_Arrays_fill (d := d + 2) sh_140 e2 ?_
  refine wp_aload_n d_Asker_ways_8 rfl rfl ?_
  refine wl_getR d_Asker_ways_9 lf_Asker_21 sh_136 rfl ?_
  refine wp_iconst d_Asker_ways_12 (v := nI 0) rfl ?_
  refine wp_iconst d_Asker_ways_13 (v := nI 1) rfl ?_
  obtain ⟨M4, e3, h⟩ := ob1_some h
  refine wa_ast d_Asker_ways_14 sh_140 e3 ?_
  refine wp_iconst d_Asker_ways_15 (v := nI 0) rfl ?_
  refine wp_istore d_Asker_ways_16 (by decide) ?_
  obtain ⟨M58, e70, h⟩ := ob1_some h
  refine l_Asker_ways_1 hw_world hr_row ?_ _ _ _ _ _ e70
  intro u4 u5 u6
  obtain ⟨v64, e65, h⟩ := ob1_some h
  have k63 : ∀ u4 u5 u6 : Value, wp X (d + 3) f_Asker_ways (0, 0) 136 [.ref 136, .ref w_world, .ref r_row, .int (bI many_), u4, u5, u6] [.int v64] (lay M58) Q := by
    intro u4 u5 u6
    cases h
    exact wp_iret d_Asker_ways_136 rfl rfl rfl hq
  refine wp_iload_n d_Asker_ways_107 rfl rfl ?_
  refine wc_eq 123 d_Asker_ways_108 rfl (fun h108 => ?_) (fun h108 => ?_)
  · replace e65 := inn e65 h108
    refine wp_aload_n d_Asker_ways_123 rfl rfl ?_
    refine wl_getR d_Asker_ways_124 lf_Asker_21 sh_136 rfl ?_
    refine wp_aload_n d_Asker_ways_127 rfl rfl ?_
    refine wl_getI d_Asker_ways_128 lf_Asker_54 (isR0 hr_row) rfl rfl ?_
    obtain ⟨v67, e66, e65⟩ := ob1_some e65
    refine wa_ald d_Asker_ways_131 sh_140 e66 ?_
    refine wp_iconst d_Asker_ways_132 (v := nI 1) rfl ?_
    refine wl_mmin d_Asker_ways_133 ls_Asker_69 rfl ⟨by decide, by decide⟩ ?_
    cases e65
    exact k63 _ _ _
  · replace e65 := ip e65 h108
    refine wp_aload_n d_Asker_ways_111 rfl rfl ?_
    refine wl_getR d_Asker_ways_112 lf_Asker_21 sh_136 rfl ?_
    refine wp_aload_n d_Asker_ways_115 rfl rfl ?_
    refine wl_getI d_Asker_ways_116 lf_Asker_54 (isR0 hr_row) rfl rfl ?_
    obtain ⟨v69, e68, e65⟩ := ob1_some e65
    refine wa_ald d_Asker_ways_119 sh_140 e68 ?_
    cases e65
    refine wp_goto 136 d_Asker_ways_120 rfl ?_
    exact k63 _ _ _
def F_Rec_says (z : Nat) (what_ : Int32) (M : mM) : Option (Int32 × mM) :=
  if what_ = nI 0 then
  ob2 (F_Asker_ways z 1 40 1 8 false M) fun v1 M2 =>
  some (v1, M2)
  else
  if what_ = nI 1 then
  ob2 (F_Asker_ways z 1 40 1 8 true M) fun v4 M5 =>
  some (v4, M5)
  else
  if what_ = nI 2 then
  ob2 (F_Asker_longest z 1 M) fun v7 M8 =>
  some (v7, M8)
  else
  some ((-1), M)
theorem s_Rec_says {what_ : Int32} {M : mM} {r : Int32} {M' : mM} (h : F_Rec_says z what_ M = some (r, M')) (hq : Q (some (.int r)) (lay M')) : Sp X (d + 5) f_Rec_says [.ref 0, .int what_] (lay M) Q := by
  refine Sp_of (by decide) rfl (Nat.le_of_ble_eq_true rfl) ?_
  refine wp_iload_n d_Rec_says_0 rfl rfl ?_
  by_cases h1_0 : what_ = nI 0
  · replace h := ip h h1_0
    refine wt_in 28 (k := 0) (off := 27) (by decide) h1_0 d_Rec_says_1 (by decide) (by decide) (by decide) (by decide) ?_
    refine wp_aload_n d_Rec_says_28 rfl rfl ?_
    refine wl_getR d_Rec_says_29 lf_Rec_57 sh_0 rfl ?_
    refine wp_aload_n d_Rec_says_32 rfl rfl ?_
    refine wl_getR d_Rec_says_33 lf_Rec_12 sh_0 rfl ?_
    refine wp_aload_n d_Rec_says_36 rfl rfl ?_
    refine wl_getR d_Rec_says_37 lf_Rec_19 sh_0 rfl ?_
    refine wl_getR d_Rec_says_40 lf_Rec_230 (shT0 isTd_28) rfl ?_
    refine wp_iconst d_Rec_says_43 (v := bI false) rfl ?_
    obtain ⟨v1, M2, e3, h⟩ := ob2_some h
    refine wl_callV3 d_Rec_says_44 lc_Asker_ways lv_Rec_237 rfl sh_136 rfl rfl ⟨rfl, rfl⟩ ⟨by decide, by decide⟩ ?_
    refine s_Asker_ways (d := d + 1) isW_1 (isR_row isTd_28) e3 ?_
    cases h
    exact wp_iret d_Rec_says_47 rfl rfl rfl hq
  · replace h := inn h h1_0
    by_cases h1_1 : what_ = nI 1
    · replace h := ip h h1_1
      refine wt_in 48 (k := 1) (off := 47) (by decide) h1_1 d_Rec_says_1 (by decide) (by decide) (by decide) (by decide) ?_
      refine wp_aload_n d_Rec_says_48 rfl rfl ?_
      refine wl_getR d_Rec_says_49 lf_Rec_57 sh_0 rfl ?_
      refine wp_aload_n d_Rec_says_52 rfl rfl ?_
      refine wl_getR d_Rec_says_53 lf_Rec_12 sh_0 rfl ?_
      refine wp_aload_n d_Rec_says_56 rfl rfl ?_
      refine wl_getR d_Rec_says_57 lf_Rec_19 sh_0 rfl ?_
      refine wl_getR d_Rec_says_60 lf_Rec_230 (shT0 isTd_28) rfl ?_
      refine wp_iconst d_Rec_says_63 (v := bI true) rfl ?_
      obtain ⟨v4, M5, e6, h⟩ := ob2_some h
      refine wl_callV3 d_Rec_says_64 lc_Asker_ways lv_Rec_237 rfl sh_136 rfl rfl ⟨rfl, rfl⟩ ⟨by decide, by decide⟩ ?_
      refine s_Asker_ways (d := d + 1) isW_1 (isR_row isTd_28) e6 ?_
      cases h
      exact wp_iret d_Rec_says_67 rfl rfl rfl hq
    · replace h := inn h h1_1
      by_cases h1_2 : what_ = nI 2
      · replace h := ip h h1_2
        refine wt_in 68 (k := 2) (off := 67) (by decide) h1_2 d_Rec_says_1 (by decide) (by decide) (by decide) (by decide) ?_
        refine wp_aload_n d_Rec_says_68 rfl rfl ?_
        refine wl_getR d_Rec_says_69 lf_Rec_57 sh_0 rfl ?_
        refine wp_aload_n d_Rec_says_72 rfl rfl ?_
        refine wl_getR d_Rec_says_73 lf_Rec_12 sh_0 rfl ?_
        obtain ⟨v7, M8, e9, h⟩ := ob2_some h
        refine wl_callV1 d_Rec_says_76 lc_Asker_longest lv_Rec_241 rfl sh_136 rfl rfl ⟨rfl, rfl⟩ ⟨by decide, by decide⟩ ?_
        refine s_Asker_longest (d := d) isW_1 e9 ?_
        cases h
        exact wp_iret d_Rec_says_79 rfl rfl rfl hq
      · replace h := inn h h1_2
        refine wt_out 80 d_Rec_says_1 (by decide) (fun y11 y101 y102 y10 => ?_) rfl ?_
        · have y103 : y11 = 0 ∨ y11 = 1 ∨ y11 = 2 := by omega
          rcases y103 with rfl | rfl | rfl
          · exact h1_0 y10
          · exact h1_1 y10
          · exact h1_2 y10
        · refine wp_iconst d_Rec_says_80 (v := (-1)) rfl ?_
          cases h
          exact wp_iret d_Rec_says_81 rfl rfl rfl hq
def L_Rec_pass_1 (z : Nat) (w_ : Int32) (M : mM) : Nat → Int32 → Int32 → Int32 → Int32 → Option (Int32 × Int32 × Int32)
  | 0, _, _, _, _ => none
  | n + 1, first_, many_, open_, i_ =>
    if i_ < (nI 60) then
    ob1 (ob1 (ob1 (F_World_isTaken 1 i_ M) fun v34 =>
    some (v34)) fun x26 =>
    if x26 = true then
    some (nI 0)
    else
    some (open_ + (nI 1))) fun v14 =>
    ob2 (if ¬ (v14 < w_) then
    ob1 (some ((if many_ = (nI 0) then (i_ - w_) + (nI 1) else first_))) fun v24 =>
    some (v24, many_ + nI 1)
    else
    some (first_, many_)) fun first_20 many_21 =>
    L_Rec_pass_1 z w_ M n first_20 many_21 v14 (i_ + nI 1)
    else
    some (first_, many_, open_)
def F_Rec_pass (z : Nat) (w_ : Int32) (what_ : Int32) (M : mM) : Option (Int32) :=
  if (¬ ((F_Rec_within w_ (nI 1) (nI 59)) = true) ∨ ¬ ((F_Rec_within what_ (nI 0) (nI 1)) = true)) then
  some ((-1))
  else
  ob3 (L_Rec_pass_1 z w_ M z (-1) (nI 0) (nI 0) (nI 0)) fun first_36 many_37 open_38 =>
  some ((if what_ = (nI 0) then first_36 else many_37))
theorem l_Rec_pass_1 {w_ : Int32} {M : mM}  {q2 : Value} {first_r : Int32} {many_r : Int32} {open_r : Int32} (K : ∀ u6 : Value, wp X (d + 1) f_Rec_pass (0, 0) 92 [.ref 0, .int w_, q2, .int first_r, .int many_r, .int open_r, u6] [] (lay M) Q) : ∀ (n : Nat) (first_ : Int32) (many_ : Int32) (open_ : Int32) (i_ : Int32), L_Rec_pass_1 z w_ M n first_ many_ open_ i_ = some (first_r, many_r, open_r) → wp X (d + 1) f_Rec_pass (0, 0) 32 [.ref 0, .int w_, q2, .int first_, .int many_, .int open_, .int i_] [] (lay M) Q := by
  intro n
  induction n with
  | zero => intro first_ many_ open_ i_ h; exact nn h
  | succ n ih =>
    intro first_ many_ open_ i_ h
    refine wp_iload d_Rec_pass_32 rfl ?_
    refine wp_bipush d_Rec_pass_34 (v := nI 60) rfl ?_
    refine wq_icmp_ge 92 d_Rec_pass_36 rfl (fun h36 => ?_) (fun h36 => ?_)
    · replace h := inn h h36
      cases h
      exact K _
    · replace h := ip h h36
      obtain ⟨v14, e15, h⟩ := ob1_some h
      have k13 : wp X (d + 1) f_Rec_pass (0, 0) 59 [.ref 0, .int w_, q2, .int first_, .int many_, .int open_, .int i_] [.int v14] (lay M) Q := by
        refine wp_istore d_Rec_pass_59 (by decide) ?_
        obtain ⟨first_20, many_21, e22, h⟩ := ob2_some h
        have k19 : wp X (d + 1) f_Rec_pass (0, 0) 86 [.ref 0, .int w_, q2, .int first_20, .int many_21, .int v14, .int i_] [] (lay M) Q := by
          refine wp_iinc d_Rec_pass_86 (v := i_ + nI 1) rfl rfl ?_
          refine wp_goto 32 d_Rec_pass_89 rfl ?_
          exact ih _ _ _ _ h
        refine wp_iload d_Rec_pass_61 rfl ?_
        refine wp_iload_n d_Rec_pass_63 rfl rfl ?_
        refine wq_icmp_lt 86 d_Rec_pass_64 rfl (fun h64 => ?_) (fun h64 => ?_)
        · replace e22 := inn e22 (fun z => z h64)
          cases e22
          exact k19
        · replace e22 := ip e22 h64
          have k23 : wp X (d + 1) f_Rec_pass (0, 0) 82 [.ref 0, .int w_, q2, .int first_, .int many_, .int v14, .int i_] [.int (if many_ = (nI 0) then (i_ - w_) + (nI 1) else first_)] (lay M) Q := by
            obtain ⟨v24, e25, e22⟩ := ob1_some e22
            refine wx_int e25 ?_
            refine wp_istore_n d_Rec_pass_82 rfl (by decide) ?_
            refine wp_iinc d_Rec_pass_83 (v := many_ + nI 1) rfl rfl ?_
            cases e22
            exact k19
          refine wp_iload d_Rec_pass_67 rfl ?_
          refine wz_ne 81 d_Rec_pass_69 rfl (fun h69 => ?_) (fun h69 => ?_)
          · refine wp_iload_n d_Rec_pass_81 rfl rfl ?_
            exact wj_in h69 (k23)
          · refine wp_iload d_Rec_pass_72 rfl ?_
            refine wp_iload_n d_Rec_pass_74 rfl rfl ?_
            refine wp_isub d_Rec_pass_75 ?_
            refine wp_iconst d_Rec_pass_76 (v := nI 1) rfl ?_
            refine wp_iadd d_Rec_pass_77 ?_
            refine wp_goto 82 d_Rec_pass_78 rfl ?_
            exact wj_ip h69 (k23)
      obtain ⟨x26, e27, e15⟩ := ob1_some e15
      have k30 : x26 = true → wp X (d + 1) f_Rec_pass (0, 0) 51 [.ref 0, .int w_, q2, .int first_, .int many_, .int open_, .int i_] [] (lay M) Q := by
        intro x31
        replace e15 := ip e15 x31
        refine wp_iconst d_Rec_pass_51 (v := nI 0) rfl ?_
        cases e15
        refine wp_goto 59 d_Rec_pass_52 rfl ?_
        exact k13
      have k32 : ¬ x26 = true → wp X (d + 1) f_Rec_pass (0, 0) 55 [.ref 0, .int w_, q2, .int first_, .int many_, .int open_, .int i_] [] (lay M) Q := by
        intro x33
        replace e15 := inn e15 x33
        refine wp_iload d_Rec_pass_55 rfl ?_
        refine wp_iconst d_Rec_pass_57 (v := nI 1) rfl ?_
        refine wp_iadd d_Rec_pass_58 ?_
        cases e15
        exact k13
      refine wp_aload_n d_Rec_pass_39 rfl rfl ?_
      refine wl_getR d_Rec_pass_40 lf_Rec_12 sh_0 rfl ?_
      refine wp_iload d_Rec_pass_43 rfl ?_
      obtain ⟨v34, e35, e27⟩ := ob1_some e27
      refine wl_callV1 d_Rec_pass_45 lc_World_isTaken lv_Rec_245 rfl (shW0 isW_1) rfl rfl ⟨rfl, rfl⟩ ⟨by decide, by decide⟩ ?_
      refine s_World_isTaken (d := d) isW_1 e35 ?_
      refine wc_eq 55 d_Rec_pass_48 rfl (fun h48 => ?_) (fun h48 => ?_)
      · cases e27
        exact k32 h48
      · cases e27
        exact k30 h48
theorem s_Rec_pass {w_ : Int32} {what_ : Int32} {M : mM} {r : Int32} (h : F_Rec_pass z w_ what_ M = some r) (hq : Q (some (.int r)) (lay M)) : Sp X (d + 1) f_Rec_pass [.ref 0, .int w_, .int what_] (lay M) Q := by
  refine Sp_of (by decide) rfl (Nat.le_of_ble_eq_true rfl) ?_
  have k1 : ∀ u3 u4 u5 u6 : Value, (¬ ((F_Rec_within w_ (nI 1) (nI 59)) = true) ∨ ¬ ((F_Rec_within what_ (nI 0) (nI 1)) = true)) → wp X (d + 1) f_Rec_pass (0, 0) 19 [.ref 0, .int w_, .int what_, u3, u4, u5, u6] [] (lay M) Q := by
    intro u3 u4 u5 u6 x2
    replace h := ip h x2
    refine wp_iconst d_Rec_pass_19 (v := (-1)) rfl ?_
    cases h
    exact wp_iret d_Rec_pass_20 rfl rfl rfl hq
  refine wp_iload_n d_Rec_pass_0 rfl rfl ?_
  refine wp_iconst d_Rec_pass_1 (v := nI 1) rfl ?_
  refine wp_bipush d_Rec_pass_2 (v := nI 59) rfl ?_
  refine wl_callS3 d_Rec_pass_4 lc_Rec_within ls_Rec_96 rfl ⟨rfl, rfl⟩ ⟨by decide, by decide⟩ ?_
  refine s_Rec_within (d := d) rfl ?_
  refine wc_eq 19 d_Rec_pass_7 rfl (fun h7 => ?_) (fun h7 => ?_)
  · exact k1 _ _ _ _ (Or.inl h7)
  · refine wp_iload_n d_Rec_pass_10 rfl rfl ?_
    refine wp_iconst d_Rec_pass_11 (v := nI 0) rfl ?_
    refine wp_iconst d_Rec_pass_12 (v := nI 1) rfl ?_
    refine wl_callS3 d_Rec_pass_13 lc_Rec_within ls_Rec_96 rfl ⟨rfl, rfl⟩ ⟨by decide, by decide⟩ ?_
    refine s_Rec_within (d := d) rfl ?_
    refine wc_ne 21 d_Rec_pass_16 rfl (fun h16 => ?_) (fun h16 => ?_)
    · replace h := inn h (fun z => z.elim (fun z => z h7) (fun z => z h16))
      refine wp_iconst d_Rec_pass_21 (v := (-1)) rfl ?_
      refine wp_istore_n d_Rec_pass_22 rfl (by decide) ?_
      refine wp_iconst d_Rec_pass_23 (v := nI 0) rfl ?_
      refine wp_istore d_Rec_pass_24 (by decide) ?_
      refine wp_iconst d_Rec_pass_26 (v := nI 0) rfl ?_
      refine wp_istore d_Rec_pass_27 (by decide) ?_
      refine wp_iconst d_Rec_pass_29 (v := nI 0) rfl ?_
      refine wp_istore d_Rec_pass_30 (by decide) ?_
      obtain ⟨first_36, many_37, open_38, e40, h⟩ := ob3_some h
      refine l_Rec_pass_1 ?_ _ _ _ _ _ e40
      intro u6
      have k39 : ∀ u6 : Value, wp X (d + 1) f_Rec_pass (0, 0) 102 [.ref 0, .int w_, .int what_, .int first_36, .int many_37, .int open_38, u6] [.int (if what_ = (nI 0) then first_36 else many_37)] (lay M) Q := by
        intro u6
        cases h
        exact wp_iret d_Rec_pass_102 rfl rfl rfl hq
      refine wp_iload_n d_Rec_pass_92 rfl rfl ?_
      refine wz_ne 100 d_Rec_pass_93 rfl (fun h93 => ?_) (fun h93 => ?_)
      · refine wp_iload d_Rec_pass_100 rfl ?_
        exact wj_in h93 (k39 _)
      · refine wp_iload_n d_Rec_pass_96 rfl rfl ?_
        refine wp_goto 102 d_Rec_pass_97 rfl ?_
        exact wj_ip h93 (k39 _)
    · exact k1 _ _ _ _ (Or.inr h16)
def F_Rec_words (legs_ : Int32) (worth_ : Int32) (M : mM) : Option (Int32 × mM) :=
  ob2 (F_Rec_tell 42 2 6 legs_ worth_ (decide (legs_ = (-1))) (decide (((F_Rec_within legs_ (nI 1) (nI 30)) = true ∧ (F_Rec_within worth_ (nI 0) (nI 99)) = true))) M) fun v3 M4 =>
  some (v3, M4)
theorem s_Rec_words {legs_ : Int32} {worth_ : Int32} {M : mM} {r : Int32} {M' : mM} (h : F_Rec_words legs_ worth_ M = some (r, M')) (hq : Q (some (.int r)) (lay M')) : Sp X (d + 3) f_Rec_words [.ref 0, .int legs_, .int worth_] (lay M) Q := by
  refine Sp_of (by decide) rfl (Nat.le_of_ble_eq_true rfl) ?_
  refine wp_aload_n d_Rec_words_0 rfl rfl ?_
  refine wl_getR d_Rec_words_1 lf_Rec_19 sh_0 rfl ?_
  refine wl_getR d_Rec_words_4 lf_Rec_248 (shT0 isTd_28) rfl ?_
  refine wp_iload_n d_Rec_words_7 rfl rfl ?_
  refine wp_iload_n d_Rec_words_8 rfl rfl ?_
  have k1 : wp X (d + 3) f_Rec_words (0, 0) 19 [.ref 0, .int legs_, .int worth_] [.int (bI (decide (legs_ = (-1)))), .int worth_, .int legs_, .ref 42] (lay M) Q := by
    have k2 : wp X (d + 3) f_Rec_words (0, 0) 44 [.ref 0, .int legs_, .int worth_] [.int (bI (decide (((F_Rec_within legs_ (nI 1) (nI 30)) = true ∧ (F_Rec_within worth_ (nI 0) (nI 99)) = true)))), .int (bI (decide (legs_ = (-1)))), .int worth_, .int legs_, .ref 42] (lay M) Q := by
      obtain ⟨v3, M4, e5, h⟩ := ob2_some h
      refine wl_callS5 d_Rec_words_44 lc_Rec_tell ls_Rec_233 rfl ⟨rfl, rfl⟩ ⟨by decide, by decide⟩ ?_
      refine s_Rec_tell (d := d) (isR_words isTd_28) e5 ?_
      cases h
      exact wp_iret d_Rec_words_47 rfl rfl rfl hq
    refine wp_iload_n d_Rec_words_19 rfl rfl ?_
    refine wp_iconst d_Rec_words_20 (v := nI 1) rfl ?_
    refine wp_bipush d_Rec_words_21 (v := nI 30) rfl ?_
    refine wl_callS3 d_Rec_words_23 lc_Rec_within ls_Rec_96 rfl ⟨rfl, rfl⟩ ⟨by decide, by decide⟩ ?_
    refine s_Rec_within (d := d + 2) rfl ?_
    refine wc_eq 43 d_Rec_words_26 rfl (fun h26 => ?_) (fun h26 => ?_)
    · refine wp_iconst d_Rec_words_43 (v := nI 0) rfl ?_
      exact wj_f (fun z => h26 z.1) (k2)
    · refine wp_iload_n d_Rec_words_29 rfl rfl ?_
      refine wp_iconst d_Rec_words_30 (v := nI 0) rfl ?_
      refine wp_bipush d_Rec_words_31 (v := nI 99) rfl ?_
      refine wl_callS3 d_Rec_words_33 lc_Rec_within ls_Rec_96 rfl ⟨rfl, rfl⟩ ⟨by decide, by decide⟩ ?_
      refine s_Rec_within (d := d + 2) rfl ?_
      refine wc_eq 43 d_Rec_words_36 rfl (fun h36 => ?_) (fun h36 => ?_)
      · refine wp_iconst d_Rec_words_43 (v := nI 0) rfl ?_
        exact wj_f (fun z => h36 z.2) (k2)
      · refine wp_iconst d_Rec_words_39 (v := nI 1) rfl ?_
        refine wp_goto 44 d_Rec_words_40 rfl ?_
        exact wj_t ⟨h26, h36⟩ (k2)
  refine wp_iload_n d_Rec_words_9 rfl rfl ?_
  refine wp_iconst d_Rec_words_10 (v := (-1)) rfl ?_
  refine wq_icmp_ne 18 d_Rec_words_11 rfl (fun h11 => ?_) (fun h11 => ?_)
  · refine wp_iconst d_Rec_words_18 (v := nI 0) rfl ?_
    exact wj_f h11 (k1)
  · refine wp_iconst d_Rec_words_14 (v := nI 1) rfl ?_
    refine wp_goto 19 d_Rec_words_15 rfl ?_
    exact wj_t h11 (k1)
def L_Rows_sumOf_1 (z : Nat) (r0 : Nat) (wd : Nat) (mo : Nat) (set_ : Int32) (column_ : Int32) (M : mM) : Nat → Int32 → Int32 → Option (Int32)
  | 0, _, _ => none
  | n + 1, all_, i_ =>
    if i_ < (M r0 3) then
    ob1 (if ((jshr set_ i_) &&& (nI 1)) = (nI 1) then
    ob1 (F_Rows_get r0 wd mo i_ column_ M) fun v6 =>
    some (v6)
    else
    some (nI 0)) fun v4 =>
    L_Rows_sumOf_1 z r0 wd mo set_ column_ M n (all_ + v4) (i_ + nI 1)
    else
    some (all_)
def F_Rows_sumOf (z : Nat) (r0 : Nat) (wd : Nat) (mo : Nat) (set_ : Int32) (column_ : Int32) (M : mM) : Option (Int32) :=
  ob1 (L_Rows_sumOf_1 z r0 wd mo set_ column_ M z (nI 0) (nI 0)) fun all_8 =>
  some (all_8)
theorem l_Rows_sumOf_1 {r0 : Nat} {wd : Nat} {mo : Nat} {set_ : Int32} {column_ : Int32} {M : mM}  {all_r : Int32} (hr : isR r0 wd mo) (K : ∀ u4 : Value, wp X (d + 1) f_Rows_sumOf (0, 0) 44 [.ref r0, .int set_, .int column_, .int all_r, u4] [] (lay M) Q) : ∀ (n : Nat) (all_ : Int32) (i_ : Int32), L_Rows_sumOf_1 z r0 wd mo set_ column_ M n all_ i_ = some (all_r) → wp X (d + 1) f_Rows_sumOf (0, 0) 5 [.ref r0, .int set_, .int column_, .int all_, .int i_] [] (lay M) Q := by
  intro n
  induction n with
  | zero => intro all_ i_ h; exact nn h
  | succ n ih =>
    intro all_ i_ h
    refine wp_iload d_Rows_sumOf_5 rfl ?_
    refine wp_aload_n d_Rows_sumOf_7 rfl rfl ?_
    refine wl_getI d_Rows_sumOf_8 lf_Rows_7 (isR0 hr) rfl rfl ?_
    refine wq_icmp_ge 44 d_Rows_sumOf_11 rfl (fun h11 => ?_) (fun h11 => ?_)
    · replace h := inn h h11
      cases h
      exact K _
    · replace h := ip h h11
      refine wp_iload_n d_Rows_sumOf_14 rfl rfl ?_
      obtain ⟨v4, e5, h⟩ := ob1_some h
      have k3 : wp X (d + 1) f_Rows_sumOf (0, 0) 36 [.ref r0, .int set_, .int column_, .int all_, .int i_] [.int v4, .int all_] (lay M) Q := by
        refine wp_iadd d_Rows_sumOf_36 ?_
        refine wp_istore_n d_Rows_sumOf_37 rfl (by decide) ?_
        refine wp_iinc d_Rows_sumOf_38 (v := i_ + nI 1) rfl rfl ?_
        refine wp_goto 5 d_Rows_sumOf_41 rfl ?_
        exact ih _ _ h
      refine wp_iload_n d_Rows_sumOf_15 rfl rfl ?_
      refine wp_iload d_Rows_sumOf_16 rfl ?_
      refine wp_ishr d_Rows_sumOf_18 ?_
      refine wp_iconst d_Rows_sumOf_19 (v := nI 1) rfl ?_
      refine wp_iand d_Rows_sumOf_20 ?_
      refine wp_iconst d_Rows_sumOf_21 (v := nI 1) rfl ?_
      refine wq_icmp_ne 35 d_Rows_sumOf_22 rfl (fun h22 => ?_) (fun h22 => ?_)
      · replace e5 := inn e5 h22
        refine wp_iconst d_Rows_sumOf_35 (v := nI 0) rfl ?_
        cases e5
        exact k3
      · replace e5 := ip e5 h22
        refine wp_aload_n d_Rows_sumOf_25 rfl rfl ?_
        refine wp_iload d_Rows_sumOf_26 rfl ?_
        refine wp_iload_n d_Rows_sumOf_28 rfl rfl ?_
        obtain ⟨v6, e7, e5⟩ := ob1_some e5
        refine wl_callV2 d_Rows_sumOf_29 lc_Rows_get lv_Rows_31 rfl (isR0 hr) rfl rfl ⟨rfl, rfl⟩ ⟨by decide, by decide⟩ ?_
        refine s_Rows_get (d := d) hr e7 ?_
        cases e5
        refine wp_goto 36 d_Rows_sumOf_32 rfl ?_
        exact k3
theorem s_Rows_sumOf {r0 : Nat} {wd : Nat} {mo : Nat} {set_ : Int32} {column_ : Int32} {M : mM} {r : Int32} (hr : isR r0 wd mo) (h : F_Rows_sumOf z r0 wd mo set_ column_ M = some r) (hq : Q (some (.int r)) (lay M)) : Sp X (d + 1) f_Rows_sumOf [.ref r0, .int set_, .int column_] (lay M) Q := by
  refine Sp_of (by decide) rfl (Nat.le_of_ble_eq_true rfl) ?_
  refine wp_iconst d_Rows_sumOf_0 (v := nI 0) rfl ?_
  refine wp_istore_n d_Rows_sumOf_1 rfl (by decide) ?_
  refine wp_iconst d_Rows_sumOf_2 (v := nI 0) rfl ?_
  refine wp_istore d_Rows_sumOf_3 (by decide) ?_
  obtain ⟨all_8, e9, h⟩ := ob1_some h
  refine l_Rows_sumOf_1 hr ?_ _ _ _ e9
  intro u4
  refine wp_iload_n d_Rows_sumOf_44 rfl rfl ?_
  cases h
  exact wp_iret d_Rows_sumOf_45 rfl rfl rfl hq
def L_Rec_bestWords_1 (z : Nat) (room_ : Int32) (M : mM) : Nat → Int32 → Int32 → Int32 → Option (Int32 × Int32)
  | 0, _, _, _ => none
  | n + 1, most_, best_, set_ =>
    if set_ < (jshl (nI 1) (M 42 3)) then
    ob1 (F_Rows_sumOf z 42 2 6 set_ (nI 1) M) fun v3 =>
    ob2 (ob1 (if most_ < v3 then ob1 (F_Rows_sumOf z 42 2 6 set_ (nI 0) M) fun v27 =>
    some (decide (¬ (room_ < v27)))
    else some (false)) fun x19 =>
    if x19 = true then
    some (v3, set_)
    else
    some (most_, best_)) fun most_16 best_17 =>
    L_Rec_bestWords_1 z room_ M n most_16 best_17 (set_ + nI 1)
    else
    some (most_, best_)
def F_Rec_bestWords (z : Nat) (what_ : Int32) (M : mM) : Option (Int32) :=
  ob1 (F_Rec_sum z 3 60 M) fun v1 =>
  ob2 (L_Rec_bestWords_1 z v1 M z (nI 0) (nI 0) (nI 1)) fun most_29 best_30 =>
  some ((if what_ = (nI 0) then most_29 else best_30))
theorem l_Rec_bestWords_1 {room_ : Int32} {M : mM}  {q1 : Value} {most_r : Int32} {best_r : Int32} (K : ∀ u5 u6 : Value, wp X (d + 2) f_Rec_bestWords (0, 0) 87 [.ref 0, q1, .int room_, .int most_r, .int best_r, u5, u6] [] (lay M) Q) : ∀ (n : Nat) (most_ : Int32) (best_ : Int32) (set_ : Int32) (u6 : Value), L_Rec_bestWords_1 z room_ M n most_ best_ set_ = some (most_r, best_r) → wp X (d + 2) f_Rec_bestWords (0, 0) 19 [.ref 0, q1, .int room_, .int most_, .int best_, .int set_, u6] [] (lay M) Q := by
  intro n
  induction n with
  | zero => intro most_ best_ set_ u6 h; exact nn h
  | succ n ih =>
    intro most_ best_ set_ u6 h
    refine wp_iload d_Rec_bestWords_19 rfl ?_
    refine wp_iconst d_Rec_bestWords_21 (v := nI 1) rfl ?_
    refine wp_aload_n d_Rec_bestWords_22 rfl rfl ?_
    refine wl_getR d_Rec_bestWords_23 lf_Rec_19 sh_0 rfl ?_
    refine wl_getR d_Rec_bestWords_26 lf_Rec_248 (shT0 isTd_28) rfl ?_
    refine wl_getI d_Rec_bestWords_29 lf_Rec_202 (isR0 (isR_words isTd_28)) rfl rfl ?_
    refine wp_ishl d_Rec_bestWords_32 ?_
    refine wq_icmp_ge 87 d_Rec_bestWords_33 rfl (fun h33 => ?_) (fun h33 => ?_)
    · replace h := inn h h33
      cases h
      exact K _ _
    · replace h := ip h h33
      refine wp_aload_n d_Rec_bestWords_36 rfl rfl ?_
      refine wl_getR d_Rec_bestWords_37 lf_Rec_19 sh_0 rfl ?_
      refine wl_getR d_Rec_bestWords_40 lf_Rec_248 (shT0 isTd_28) rfl ?_
      refine wp_iload d_Rec_bestWords_43 rfl ?_
      refine wp_iconst d_Rec_bestWords_45 (v := nI 1) rfl ?_
      obtain ⟨v3, e4, h⟩ := ob1_some h
      refine wl_callV2 d_Rec_bestWords_46 lc_Rows_sumOf lv_Rec_254 rfl (isR0 (isR_words isTd_28)) rfl rfl ⟨rfl, rfl⟩ ⟨by decide, by decide⟩ ?_
      refine s_Rows_sumOf (d := d) (isR_words isTd_28) e4 ?_
      refine wp_istore d_Rec_bestWords_49 (by decide) ?_
      obtain ⟨most_16, best_17, e18, h⟩ := ob2_some h
      have k15 : wp X (d + 2) f_Rec_bestWords (0, 0) 81 [.ref 0, q1, .int room_, .int most_16, .int best_17, .int set_, .int v3] [] (lay M) Q := by
        refine wp_iinc d_Rec_bestWords_81 (v := set_ + nI 1) rfl rfl ?_
        refine wp_goto 19 d_Rec_bestWords_84 rfl ?_
        exact ih _ _ _ _ h
      obtain ⟨x19, e20, e18⟩ := ob1_some e18
      have k23 : x19 = true → wp X (d + 2) f_Rec_bestWords (0, 0) 74 [.ref 0, q1, .int room_, .int most_, .int best_, .int set_, .int v3] [] (lay M) Q := by
        intro x24
        replace e18 := ip e18 x24
        refine wp_iload d_Rec_bestWords_74 rfl ?_
        refine wp_istore_n d_Rec_bestWords_76 rfl (by decide) ?_
        refine wp_iload d_Rec_bestWords_77 rfl ?_
        refine wp_istore d_Rec_bestWords_79 (by decide) ?_
        cases e18
        exact k15
      have k25 : ¬ x19 = true → wp X (d + 2) f_Rec_bestWords (0, 0) 81 [.ref 0, q1, .int room_, .int most_, .int best_, .int set_, .int v3] [] (lay M) Q := by
        intro x26
        replace e18 := inn e18 x26
        cases e18
        exact k15
      refine wp_iload d_Rec_bestWords_51 rfl ?_
      refine wp_iload_n d_Rec_bestWords_53 rfl rfl ?_
      refine wq_icmp_le 81 d_Rec_bestWords_54 rfl (fun h54 => ?_) (fun h54 => ?_)
      · replace e20 := inn e20 h54
        cases e20
        exact k25 (fun z => Bool.noConfusion z)
      · replace e20 := ip e20 h54
        refine wp_aload_n d_Rec_bestWords_57 rfl rfl ?_
        refine wl_getR d_Rec_bestWords_58 lf_Rec_19 sh_0 rfl ?_
        refine wl_getR d_Rec_bestWords_61 lf_Rec_248 (shT0 isTd_28) rfl ?_
        refine wp_iload d_Rec_bestWords_64 rfl ?_
        refine wp_iconst d_Rec_bestWords_66 (v := nI 0) rfl ?_
        obtain ⟨v27, e28, e20⟩ := ob1_some e20
        refine wl_callV2 d_Rec_bestWords_67 lc_Rows_sumOf lv_Rec_254 rfl (isR0 (isR_words isTd_28)) rfl rfl ⟨rfl, rfl⟩ ⟨by decide, by decide⟩ ?_
        refine s_Rows_sumOf (d := d) (isR_words isTd_28) e28 ?_
        refine wp_iload_n d_Rec_bestWords_70 rfl rfl ?_
        refine wq_icmp_gt 81 d_Rec_bestWords_71 rfl (fun h71 => ?_) (fun h71 => ?_)
        · cases e20
          exact k25 (fun z => (fun z => z h71) (of_decide_eq_true z))
        · cases e20
          exact k23 (decide_eq_true h71)
theorem s_Rec_bestWords {what_ : Int32} {M : mM} {r : Int32} (h : F_Rec_bestWords z what_ M = some r) (hq : Q (some (.int r)) (lay M)) : Sp X (d + 2) f_Rec_bestWords [.ref 0, .int what_] (lay M) Q := by
  refine Sp_of (by decide) rfl (Nat.le_of_ble_eq_true rfl) ?_
  refine wp_aload_n d_Rec_bestWords_0 rfl rfl ?_
  refine wl_getR d_Rec_bestWords_1 lf_Rec_12 sh_0 rfl ?_
  refine wl_getR d_Rec_bestWords_4 lf_Rec_170 (shW0 isW_1) rfl ?_
  obtain ⟨v1, e2, h⟩ := ob1_some h
  refine wl_callS1 d_Rec_bestWords_7 lc_Rec_sum ls_Rec_216 rfl ⟨rfl, rfl⟩ ⟨by decide, by decide⟩ ?_
  refine s_Rec_sum (d := d + 1) (shW2 isW_1) e2 ?_
  refine wp_istore_n d_Rec_bestWords_10 rfl (by decide) ?_
  refine wp_iconst d_Rec_bestWords_11 (v := nI 0) rfl ?_
  refine wp_istore_n d_Rec_bestWords_12 rfl (by decide) ?_
  refine wp_iconst d_Rec_bestWords_13 (v := nI 0) rfl ?_
  refine wp_istore d_Rec_bestWords_14 (by decide) ?_
  refine wp_iconst d_Rec_bestWords_16 (v := nI 1) rfl ?_
  refine wp_istore d_Rec_bestWords_17 (by decide) ?_
  obtain ⟨most_29, best_30, e32, h⟩ := ob2_some h
  refine l_Rec_bestWords_1 ?_ _ _ _ _ _ e32
  intro u5 u6
  have k31 : ∀ u5 u6 : Value, wp X (d + 2) f_Rec_bestWords (0, 0) 97 [.ref 0, .int what_, .int v1, .int most_29, .int best_30, u5, u6] [.int (if what_ = (nI 0) then most_29 else best_30)] (lay M) Q := by
    intro u5 u6
    cases h
    exact wp_iret d_Rec_bestWords_97 rfl rfl rfl hq
  refine wp_iload_n d_Rec_bestWords_87 rfl rfl ?_
  refine wz_ne 95 d_Rec_bestWords_88 rfl (fun h88 => ?_) (fun h88 => ?_)
  · refine wp_iload d_Rec_bestWords_95 rfl ?_
    exact wj_in h88 (k31 _ _)
  · refine wp_iload_n d_Rec_bestWords_91 rfl rfl ?_
    refine wp_goto 97 d_Rec_bestWords_92 rfl ?_
    exact wj_ip h88 (k31 _ _)
def F_Rec_legs (z : Nat) (what_ : Int32) (M : mM) : Option (Int32) :=
  ob1 (if (F_Rec_within what_ (nI 0) (nI 1)) = true then
  ob1 (F_Rec_bestWords z what_ M) fun v6 =>
  some (v6)
  else
  some ((-1))) fun v4 =>
  some (v4)
theorem s_Rec_legs {what_ : Int32} {M : mM} {r : Int32} (h : F_Rec_legs z what_ M = some r) (hq : Q (some (.int r)) (lay M)) : Sp X (d + 3) f_Rec_legs [.ref 0, .int what_] (lay M) Q := by
  refine Sp_of (by decide) rfl (Nat.le_of_ble_eq_true rfl) ?_
  obtain ⟨v4, e5, h⟩ := ob1_some h
  have k3 : wp X (d + 3) f_Rec_legs (0, 0) 18 [.ref 0, .int what_] [.int v4] (lay M) Q := by
    cases h
    exact wp_iret d_Rec_legs_18 rfl rfl rfl hq
  refine wp_iload_n d_Rec_legs_0 rfl rfl ?_
  refine wp_iconst d_Rec_legs_1 (v := nI 0) rfl ?_
  refine wp_iconst d_Rec_legs_2 (v := nI 1) rfl ?_
  refine wl_callS3 d_Rec_legs_3 lc_Rec_within ls_Rec_96 rfl ⟨rfl, rfl⟩ ⟨by decide, by decide⟩ ?_
  refine s_Rec_within (d := d + 2) rfl ?_
  refine wc_eq 17 d_Rec_legs_6 rfl (fun h6 => ?_) (fun h6 => ?_)
  · replace e5 := inn e5 h6
    refine wp_iconst d_Rec_legs_17 (v := (-1)) rfl ?_
    cases e5
    exact k3
  · replace e5 := ip e5 h6
    refine wp_aload_n d_Rec_legs_9 rfl rfl ?_
    refine wp_iload_n d_Rec_legs_10 rfl rfl ?_
    obtain ⟨v6, e7, e5⟩ := ob1_some e5
    refine wl_callV1 d_Rec_legs_11 lc_Rec_bestWords lv_Rec_251 rfl sh_0 rfl rfl ⟨rfl, rfl⟩ ⟨by decide, by decide⟩ ?_
    refine s_Rec_bestWords (d := d) e7 ?_
    cases e5
    refine wp_goto 18 d_Rec_legs_14 rfl ?_
    exact k3
def L_Layers_above_1 (z : Nat) (strip_ : Int32) (M : mM) : Nat → Int32 → Int32 → Option (Int32)
  | 0, _, _ => none
  | n + 1, set_, s_ =>
    if s_ < (nI 12) then
    ob1 (ob1 (ob1 (ra M 145 12 s_) fun v23 =>
    some (decide (((jshr v23 strip_) &&& (nI 1)) = (nI 1)))) fun x14 =>
    if x14 = true then
    some (jshl (nI 1) s_)
    else
    some (nI 0)) fun v12 =>
    L_Layers_above_1 z strip_ M n (set_ ||| v12) (s_ + nI 1)
    else
    some (set_)
def F_Layers_above (z : Nat) (strip_ : Int32) (M : mM) : Option (Int32) :=
  ob1 (L_Layers_above_1 z strip_ M z (nI 0) (nI 0)) fun set_24 =>
  some (set_24)
theorem l_Layers_above_1 {strip_ : Int32} {M : mM}  {set_r : Int32} (K : ∀ u3 : Value, wp X d f_Layers_above (0, 0) 40 [.ref 143, .int strip_, .int set_r, u3] [] (lay M) Q) : ∀ (n : Nat) (set_ : Int32) (s_ : Int32), L_Layers_above_1 z strip_ M n set_ s_ = some (set_r) → wp X d f_Layers_above (0, 0) 4 [.ref 143, .int strip_, .int set_, .int s_] [] (lay M) Q := by
  intro n
  induction n with
  | zero => intro set_ s_ h; exact nn h
  | succ n ih =>
    intro set_ s_ h
    refine wp_iload_n d_Layers_above_4 rfl rfl ?_
    refine wp_bipush d_Layers_above_5 (v := nI 12) rfl ?_
    refine wq_icmp_ge 40 d_Layers_above_7 rfl (fun h7 => ?_) (fun h7 => ?_)
    · replace h := inn h h7
      cases h
      exact K _
    · replace h := ip h h7
      refine wp_iload_n d_Layers_above_10 rfl rfl ?_
      obtain ⟨v12, e13, h⟩ := ob1_some h
      have k11 : wp X d f_Layers_above (0, 0) 32 [.ref 143, .int strip_, .int set_, .int s_] [.int v12, .int set_] (lay M) Q := by
        refine wp_ior d_Layers_above_32 ?_
        refine wp_istore_n d_Layers_above_33 rfl (by decide) ?_
        refine wp_iinc d_Layers_above_34 (v := s_ + nI 1) rfl rfl ?_
        refine wp_goto 4 d_Layers_above_37 rfl ?_
        exact ih _ _ h
      obtain ⟨x14, e15, e13⟩ := ob1_some e13
      have k18 : x14 = true → wp X d f_Layers_above (0, 0) 25 [.ref 143, .int strip_, .int set_, .int s_] [.int set_] (lay M) Q := by
        intro x19
        replace e13 := ip e13 x19
        refine wp_iconst d_Layers_above_25 (v := nI 1) rfl ?_
        refine wp_iload_n d_Layers_above_26 rfl rfl ?_
        refine wp_ishl d_Layers_above_27 ?_
        cases e13
        refine wp_goto 32 d_Layers_above_28 rfl ?_
        exact k11
      have k20 : ¬ x14 = true → wp X d f_Layers_above (0, 0) 31 [.ref 143, .int strip_, .int set_, .int s_] [.int set_] (lay M) Q := by
        intro x21
        replace e13 := inn e13 x21
        refine wp_iconst d_Layers_above_31 (v := nI 0) rfl ?_
        cases e13
        exact k11
      refine wp_aload_n d_Layers_above_11 rfl rfl ?_
      refine wl_getR d_Layers_above_12 lf_Layers_15 sh_143 rfl ?_
      refine wp_iload_n d_Layers_above_15 rfl rfl ?_
      obtain ⟨v23, e22, e15⟩ := ob1_some e15
      refine wa_ald d_Layers_above_16 sh_145 e22 ?_
      refine wp_iload_n d_Layers_above_17 rfl rfl ?_
      refine wp_ishr d_Layers_above_18 ?_
      refine wp_iconst d_Layers_above_19 (v := nI 1) rfl ?_
      refine wp_iand d_Layers_above_20 ?_
      refine wp_iconst d_Layers_above_21 (v := nI 1) rfl ?_
      refine wq_icmp_ne 31 d_Layers_above_22 rfl (fun h22 => ?_) (fun h22 => ?_)
      · cases e15
        exact k20 (fun z => h22 (of_decide_eq_true z))
      · cases e15
        exact k18 (decide_eq_true h22)
theorem s_Layers_above {strip_ : Int32} {M : mM} {r : Int32} (h : F_Layers_above z strip_ M = some r) (hq : Q (some (.int r)) (lay M)) : Sp X d f_Layers_above [.ref 143, .int strip_] (lay M) Q := by
  refine Sp_of (by decide) rfl (Nat.le_of_ble_eq_true rfl) ?_
  refine wp_iconst d_Layers_above_0 (v := nI 0) rfl ?_
  refine wp_istore_n d_Layers_above_1 rfl (by decide) ?_
  refine wp_iconst d_Layers_above_2 (v := nI 0) rfl ?_
  refine wp_istore_n d_Layers_above_3 rfl (by decide) ?_
  obtain ⟨set_24, e25, h⟩ := ob1_some h
  refine l_Layers_above_1 ?_ _ _ _ e25
  intro u3
  refine wp_iload_n d_Layers_above_40 rfl rfl ?_
  cases h
  exact wp_iret d_Layers_above_41 rfl rfl rfl hq
def F_Integer_bitCount (i_ : Int32) : Option (Int32) :=
  ob1 (some (i_ - ((jushr i_ (nI 1)) &&& (nI 1431655765)))) fun v1 =>
  ob1 (some ((v1 &&& (nI 858993459)) + ((jushr v1 (nI 2)) &&& (nI 858993459)))) fun v3 =>
  ob1 (some ((v3 + (jushr v3 (nI 4))) &&& (nI 252645135))) fun v5 =>
  ob1 (some ((v5 + (jushr v5 (nI 8))) + (jushr (v5 + (jushr v5 (nI 8))) (nI 16)))) fun v7 =>
  some (v7 &&& (nI 63))
theorem s_Integer_bitCount {i_ : Int32} {M : mM} {r : Int32} (h : F_Integer_bitCount i_ = some r) (hq : Q (some (.int r)) (lay M)) : Sp X d f_Integer_bitCount [.int i_] (lay M) Q := by
  refine Sp_of (by decide) rfl (Nat.le_of_ble_eq_true rfl) ?_
  refine wp_iload_n d_Integer_bitCount_0 rfl rfl ?_
  refine wp_iload_n d_Integer_bitCount_1 rfl rfl ?_
  refine wp_iconst d_Integer_bitCount_2 (v := nI 1) rfl ?_
  refine wp_iushr d_Integer_bitCount_3 (v := jushr i_ (nI 1)) rfl ?_
  refine wp_ldcw (v := nI 1431655765) d_Integer_bitCount_4 lk_Integer_265 ?_
  refine wp_iand d_Integer_bitCount_7 ?_
  refine wp_isub d_Integer_bitCount_8 ?_
  obtain ⟨v1, e2, h⟩ := ob1_some h
  refine wx_int e2 ?_
  refine wp_istore_n d_Integer_bitCount_9 rfl (by decide) ?_
  refine wp_iload_n d_Integer_bitCount_10 rfl rfl ?_
  refine wp_ldcw (v := nI 858993459) d_Integer_bitCount_11 lk_Integer_266 ?_
  refine wp_iand d_Integer_bitCount_14 ?_
  refine wp_iload_n d_Integer_bitCount_15 rfl rfl ?_
  refine wp_iconst d_Integer_bitCount_16 (v := nI 2) rfl ?_
  refine wp_iushr d_Integer_bitCount_17 (v := jushr v1 (nI 2)) rfl ?_
  refine wp_ldcw (v := nI 858993459) d_Integer_bitCount_18 lk_Integer_266 ?_
  refine wp_iand d_Integer_bitCount_21 ?_
  refine wp_iadd d_Integer_bitCount_22 ?_
  obtain ⟨v3, e4, h⟩ := ob1_some h
  refine wx_int e4 ?_
  refine wp_istore_n d_Integer_bitCount_23 rfl (by decide) ?_
  refine wp_iload_n d_Integer_bitCount_24 rfl rfl ?_
  refine wp_iload_n d_Integer_bitCount_25 rfl rfl ?_
  refine wp_iconst d_Integer_bitCount_26 (v := nI 4) rfl ?_
  refine wp_iushr d_Integer_bitCount_27 (v := jushr v3 (nI 4)) rfl ?_
  refine wp_iadd d_Integer_bitCount_28 ?_
  refine wp_ldcw (v := nI 252645135) d_Integer_bitCount_29 lk_Integer_267 ?_
  refine wp_iand d_Integer_bitCount_32 ?_
  obtain ⟨v5, e6, h⟩ := ob1_some h
  refine wx_int e6 ?_
  refine wp_istore_n d_Integer_bitCount_33 rfl (by decide) ?_
  refine wp_iload_n d_Integer_bitCount_34 rfl rfl ?_
  refine wp_iload_n d_Integer_bitCount_35 rfl rfl ?_
  refine wp_bipush d_Integer_bitCount_36 (v := nI 8) rfl ?_
  refine wp_iushr d_Integer_bitCount_38 (v := jushr v5 (nI 8)) rfl ?_
  refine wp_iadd d_Integer_bitCount_39 ?_
  refine wp_istore_n d_Integer_bitCount_40 rfl (by decide) ?_
  refine wp_iload_n d_Integer_bitCount_41 rfl rfl ?_
  refine wp_iload_n d_Integer_bitCount_42 rfl rfl ?_
  refine wp_bipush d_Integer_bitCount_43 (v := nI 16) rfl ?_
  refine wp_iushr d_Integer_bitCount_45 (v := jushr (v5 + (jushr v5 (nI 8))) (nI 16)) rfl ?_
  refine wp_iadd d_Integer_bitCount_46 ?_
  obtain ⟨v7, e8, h⟩ := ob1_some h
  refine wx_int e8 ?_
  refine wp_istore_n d_Integer_bitCount_47 rfl (by decide) ?_
  refine wp_iload_n d_Integer_bitCount_48 rfl rfl ?_
  refine wp_bipush d_Integer_bitCount_49 (v := nI 63) rfl ?_
  refine wp_iand d_Integer_bitCount_51 ?_
  cases h
  exact wp_iret d_Integer_bitCount_52 rfl rfl rfl hq
def L_Layers_rounds_1 (z : Nat) (M : mM) : Nat → Int32 → Int32 → Option (Int32)
  | 0, _, _ => none
  | n + 1, set_, s_ =>
    if s_ < (nI 12) then
    ob1 (ra M 145 12 s_) fun v2 =>
    ob1 (some (set_ ||| (v2 &&& (jshl (nI 1) s_)))) fun v3 =>
    L_Layers_rounds_1 z M n v3 (s_ + nI 1)
    else
    some (set_)
def F_Layers_rounds (z : Nat) (M : mM) : Option (Int32) :=
  ob1 (L_Layers_rounds_1 z M z (nI 0) (nI 0)) fun set_5 =>
  some (set_5)
theorem l_Layers_rounds_1 {M : mM}  {set_r : Int32} (K : ∀ u2 : Value, wp X d f_Layers_rounds (0, 0) 29 [.ref 143, .int set_r, u2] [] (lay M) Q) : ∀ (n : Nat) (set_ : Int32) (s_ : Int32), L_Layers_rounds_1 z M n set_ s_ = some (set_r) → wp X d f_Layers_rounds (0, 0) 4 [.ref 143, .int set_, .int s_] [] (lay M) Q := by
  intro n
  induction n with
  | zero => intro set_ s_ h; exact nn h
  | succ n ih =>
    intro set_ s_ h
    refine wp_iload_n d_Layers_rounds_4 rfl rfl ?_
    refine wp_bipush d_Layers_rounds_5 (v := nI 12) rfl ?_
    refine wq_icmp_ge 29 d_Layers_rounds_7 rfl (fun h7 => ?_) (fun h7 => ?_)
    · replace h := inn h h7
      cases h
      exact K _
    · replace h := ip h h7
      refine wp_iload_n d_Layers_rounds_10 rfl rfl ?_
      refine wp_aload_n d_Layers_rounds_11 rfl rfl ?_
      refine wl_getR d_Layers_rounds_12 lf_Layers_15 sh_143 rfl ?_
      refine wp_iload_n d_Layers_rounds_15 rfl rfl ?_
      obtain ⟨v2, e1, h⟩ := ob1_some h
      refine wa_ald d_Layers_rounds_16 sh_145 e1 ?_
      refine wp_iconst d_Layers_rounds_17 (v := nI 1) rfl ?_
      refine wp_iload_n d_Layers_rounds_18 rfl rfl ?_
      refine wp_ishl d_Layers_rounds_19 ?_
      refine wp_iand d_Layers_rounds_20 ?_
      refine wp_ior d_Layers_rounds_21 ?_
      obtain ⟨v3, e4, h⟩ := ob1_some h
      refine wx_int e4 ?_
      refine wp_istore_n d_Layers_rounds_22 rfl (by decide) ?_
      refine wp_iinc d_Layers_rounds_23 (v := s_ + nI 1) rfl rfl ?_
      refine wp_goto 4 d_Layers_rounds_26 rfl ?_
      exact ih _ _ h
theorem s_Layers_rounds {M : mM} {r : Int32} (h : F_Layers_rounds z M = some r) (hq : Q (some (.int r)) (lay M)) : Sp X d f_Layers_rounds [.ref 143] (lay M) Q := by
  refine Sp_of (by decide) rfl (Nat.le_of_ble_eq_true rfl) ?_
  refine wp_iconst d_Layers_rounds_0 (v := nI 0) rfl ?_
  refine wp_istore_n d_Layers_rounds_1 rfl (by decide) ?_
  refine wp_iconst d_Layers_rounds_2 (v := nI 0) rfl ?_
  refine wp_istore_n d_Layers_rounds_3 rfl (by decide) ?_
  obtain ⟨set_5, e6, h⟩ := ob1_some h
  refine l_Layers_rounds_1 ?_ _ _ _ e6
  intro u2
  refine wp_iload_n d_Layers_rounds_29 rfl rfl ?_
  cases h
  exact wp_iret d_Layers_rounds_30 rfl rfl rfl hq
def F_Layers_earliest (z : Nat) (strip_ : Int32) (M : mM) : Option (Int32) :=
  ob1 (if (strip_ < (nI 0) ∨ ¬ (strip_ < (nI 12))) then some (true)
  else ob1 (ra M 145 12 strip_) fun v16 =>
  ob1 (F_Layers_rounds z M) fun v17 =>
  some (decide (¬ ((v16 &&& v17) = (nI 0))))) fun x1 =>
  if x1 = true then
  some ((-1))
  else
  ob1 (ra M 145 12 strip_) fun v12 =>
  ob1 (F_Integer_bitCount v12) fun v13 =>
  some (v13)
theorem s_Layers_earliest {strip_ : Int32} {M : mM} {r : Int32} (h : F_Layers_earliest z strip_ M = some r) (hq : Q (some (.int r)) (lay M)) : Sp X (d + 1) f_Layers_earliest [.ref 143, .int strip_] (lay M) Q := by
  refine Sp_of (by decide) rfl (Nat.le_of_ble_eq_true rfl) ?_
  obtain ⟨x1, e2, h⟩ := ob1_some h
  have k7 : x1 = true → wp X (d + 1) f_Layers_earliest (0, 0) 24 [.ref 143, .int strip_] [] (lay M) Q := by
    intro x8
    replace h := ip h x8
    refine wp_iconst d_Layers_earliest_24 (v := (-1)) rfl ?_
    cases h
    exact wp_iret d_Layers_earliest_25 rfl rfl rfl hq
  have k9 : ¬ x1 = true → wp X (d + 1) f_Layers_earliest (0, 0) 26 [.ref 143, .int strip_] [] (lay M) Q := by
    intro x10
    replace h := inn h x10
    refine wp_aload_n d_Layers_earliest_26 rfl rfl ?_
    refine wl_getR d_Layers_earliest_27 lf_Layers_15 sh_143 rfl ?_
    refine wp_iload_n d_Layers_earliest_30 rfl rfl ?_
    obtain ⟨v12, e11, h⟩ := ob1_some h
    refine wa_ald d_Layers_earliest_31 sh_145 e11 ?_
    obtain ⟨v13, e14, h⟩ := ob1_some h
    refine wl_callS1 d_Layers_earliest_32 lc_Integer_bitCount ls_Layers_44 rfl ⟨rfl, rfl⟩ ⟨by decide, by decide⟩ ?_
    refine s_Integer_bitCount (d := d) e14 ?_
    cases h
    exact wp_iret d_Layers_earliest_35 rfl rfl rfl hq
  refine wp_iload_n d_Layers_earliest_0 rfl rfl ?_
  refine wz_lt 24 d_Layers_earliest_1 rfl (fun h1 => ?_) (fun h1 => ?_)
  · replace e2 := ip e2 (Or.inl h1)
    cases e2
    exact k7 rfl
  · refine wp_iload_n d_Layers_earliest_4 rfl rfl ?_
    refine wp_bipush d_Layers_earliest_5 (v := nI 12) rfl ?_
    refine wq_icmp_ge 24 d_Layers_earliest_7 rfl (fun h7 => ?_) (fun h7 => ?_)
    · replace e2 := ip e2 (Or.inr h7)
      cases e2
      exact k7 rfl
    · replace e2 := inn e2 (fun z => z.elim h1 (fun z => z h7))
      refine wp_aload_n d_Layers_earliest_10 rfl rfl ?_
      refine wl_getR d_Layers_earliest_11 lf_Layers_15 sh_143 rfl ?_
      refine wp_iload_n d_Layers_earliest_14 rfl rfl ?_
      obtain ⟨v16, e15, e2⟩ := ob1_some e2
      refine wa_ald d_Layers_earliest_15 sh_145 e15 ?_
      refine wp_aload_n d_Layers_earliest_16 rfl rfl ?_
      obtain ⟨v17, e18, e2⟩ := ob1_some e2
      refine wl_callV0 d_Layers_earliest_17 lc_Layers_rounds lv_Layers_40 rfl sh_143 rfl rfl ⟨rfl, rfl⟩ ⟨by decide, by decide⟩ ?_
      refine s_Layers_rounds (d := d) e18 ?_
      refine wp_iand d_Layers_earliest_20 ?_
      refine wz_eq 26 d_Layers_earliest_21 rfl (fun h21 => ?_) (fun h21 => ?_)
      · cases e2
        exact k9 (fun z => (fun z => z h21) (of_decide_eq_true z))
      · cases e2
        exact k7 (decide_eq_true h21)
end S147
