/-! methods as functions: printed by program -/
section S1410
variable {X : mXs} {d z : Nat} {Q : Option Value → mH → Prop}
def L_Asker_balance_1 (z : Nat) (w_world : Nat) (total_ : Int32) (M : mM) : Nat → Int32 → Int32 → Int32 → Option (Int32 × Int32)
  | 0, _, _, _ => none
  | n + 1, apart_, many_, sum_ =>
    if (¬ (total_ < sum_) ∧ (nI 0) < total_) then
    ob1 (some (F_Math_abs (total_ - ((nI 2) * sum_)))) fun v6 =>
    ob1 (if v6 < apart_ then some (true)
    else if v6 = apart_ then ob1 (ra M 141 181 sum_) fun v74 =>
    some (decide (v74 < many_))
    else some (false)) fun x11 =>
    ob2 (ob1 (ob1 (ob1 (ra M 141 181 sum_) fun v72 =>
    some (decide (v72 < (nI 1000)))) fun x63 =>
    if x63 = true then some (decide (x11 = true))
    else some (false)) fun x45 =>
    if x45 = true then
    ob1 (ra M 141 181 sum_) fun v60 =>
    some (v6, v60)
    else
    some (apart_, many_)) fun apart_42 many_43 =>
    L_Asker_balance_1 z w_world total_ M n apart_42 many_43 (sum_ + nI 1)
    else
    some (apart_, many_)
def F_Asker_balance (z : Nat) (w_world : Nat) (what_ : Int32) (M : mM) : Option (Int32 × mM) :=
  ob2 (F_Asker_weighWasps z w_world M) fun v1 M2 =>
  ob2 (L_Asker_balance_1 z w_world v1 M2 z (nI 1000) (nI 0) (nI 0)) fun apart_75 many_76 =>
  if v1 = (nI 0) then
  some (nI 0, M2)
  else
  some ((if what_ = (nI 0) then apart_75 else many_76), M2)
theorem l_Asker_balance_1 {w_world : Nat} {total_ : Int32} {M : mM}  {q2 : Value} {apart_r : Int32} {many_r : Int32} (hw_world : isW w_world) (K : ∀ u6 u7 u8 : Value, wp X (d + 4) f_Asker_balance (0, 0) 108 [.ref 136, .ref w_world, q2, .int total_, .int apart_r, .int many_r, u6, u7, u8] [] (lay M) Q) : ∀ (n : Nat) (apart_ : Int32) (many_ : Int32) (sum_ : Int32) (u7 u8 : Value), L_Asker_balance_1 z w_world total_ M n apart_ many_ sum_ = some (apart_r, many_r) → wp X (d + 4) f_Asker_balance (0, 0) 17 [.ref 136, .ref w_world, q2, .int total_, .int apart_, .int many_, .int sum_, u7, u8] [] (lay M) Q := by
  intro n
  induction n with
  | zero => intro apart_ many_ sum_ u7 u8 h; exact nn h
  | succ n ih =>
    intro apart_ many_ sum_ u7 u8 h
    have k4 : ∀ u7 u8 : Value, ¬ (¬ (total_ < sum_) ∧ (nI 0) < total_) → wp X (d + 4) f_Asker_balance (0, 0) 108 [.ref 136, .ref w_world, q2, .int total_, .int apart_, .int many_, .int sum_, u7, u8] [] (lay M) Q := by
      intro u7 u8 x5
      replace h := inn h x5
      cases h
      exact K _ _ _
    refine wp_iload d_Asker_balance_17 rfl ?_
    refine wp_iload_n d_Asker_balance_19 rfl rfl ?_
    refine wq_icmp_gt 108 d_Asker_balance_20 rfl (fun h20 => ?_) (fun h20 => ?_)
    · exact k4 _ _ (fun z => (fun z => z h20) z.1)
    · refine wp_iload_n d_Asker_balance_23 rfl rfl ?_
      refine wz_le 108 d_Asker_balance_24 rfl (fun h24 => ?_) (fun h24 => ?_)
      · exact k4 _ _ (fun z => h24 z.2)
      · replace h := ip h ⟨h20, h24⟩
        refine wp_iload_n d_Asker_balance_27 rfl rfl ?_
        refine wp_iconst d_Asker_balance_28 (v := nI 2) rfl ?_
        refine wp_iload d_Asker_balance_29 rfl ?_
        refine wp_imul d_Asker_balance_31 ?_
        refine wp_isub d_Asker_balance_32 ?_
        refine wl_mabs d_Asker_balance_33 ls_Asker_93 rfl ⟨by decide, by decide⟩ ?_
        obtain ⟨v6, e7, h⟩ := ob1_some h
        refine wx_int e7 ?_
        refine wp_istore d_Asker_balance_36 (by decide) ?_
        obtain ⟨x11, e12, h⟩ := ob1_some h
        have k10 : ∀ u8 : Value, wp X (d + 4) f_Asker_balance (0, 0) 69 [.ref 136, .ref w_world, q2, .int total_, .int apart_, .int many_, .int sum_, .int v6, u8] [.int (bI x11)] (lay M) Q := by
          intro u8
          refine wp_istore d_Asker_balance_69 (by decide) ?_
          obtain ⟨apart_42, many_43, e44, h⟩ := ob2_some h
          have k41 : wp X (d + 4) f_Asker_balance (0, 0) 102 [.ref 136, .ref w_world, q2, .int total_, .int apart_42, .int many_43, .int sum_, .int v6, .int (bI x11)] [] (lay M) Q := by
            refine wp_iinc d_Asker_balance_102 (v := sum_ + nI 1) rfl rfl ?_
            refine wp_goto 17 d_Asker_balance_105 rfl ?_
            exact ih _ _ _ _ _ h
          obtain ⟨x45, e46, e44⟩ := ob1_some e44
          have k57 : x45 = true → wp X (d + 4) f_Asker_balance (0, 0) 89 [.ref 136, .ref w_world, q2, .int total_, .int apart_, .int many_, .int sum_, .int v6, .int (bI x11)] [] (lay M) Q := by
            intro x58
            replace e44 := ip e44 x58
            refine wp_iload d_Asker_balance_89 rfl ?_
            refine wp_istore d_Asker_balance_91 (by decide) ?_
            refine wp_aload_n d_Asker_balance_93 rfl rfl ?_
            refine wl_getR d_Asker_balance_94 lf_Asker_24 sh_136 rfl ?_
            refine wp_iload d_Asker_balance_97 rfl ?_
            obtain ⟨v60, e59, e44⟩ := ob1_some e44
            refine wa_ald d_Asker_balance_99 sh_141 e59 ?_
            refine wp_istore d_Asker_balance_100 (by decide) ?_
            cases e44
            exact k41
          have k61 : ¬ x45 = true → wp X (d + 4) f_Asker_balance (0, 0) 102 [.ref 136, .ref w_world, q2, .int total_, .int apart_, .int many_, .int sum_, .int v6, .int (bI x11)] [] (lay M) Q := by
            intro x62
            replace e44 := inn e44 x62
            cases e44
            exact k41
          obtain ⟨x63, e64, e46⟩ := ob1_some e46
          have k67 : x63 = true → wp X (d + 4) f_Asker_balance (0, 0) 84 [.ref 136, .ref w_world, q2, .int total_, .int apart_, .int many_, .int sum_, .int v6, .int (bI x11)] [] (lay M) Q := by
            intro x68
            replace e46 := ip e46 x68
            refine wp_iload d_Asker_balance_84 rfl ?_
            refine wc_eq 102 d_Asker_balance_86 rfl (fun h86 => ?_) (fun h86 => ?_)
            · cases e46
              exact k61 (fun z => h86 (of_decide_eq_true z))
            · cases e46
              exact k57 (decide_eq_true h86)
          have k69 : ¬ x63 = true → wp X (d + 4) f_Asker_balance (0, 0) 102 [.ref 136, .ref w_world, q2, .int total_, .int apart_, .int many_, .int sum_, .int v6, .int (bI x11)] [] (lay M) Q := by
            intro x70
            replace e46 := inn e46 x70
            cases e46
            exact k61 (fun z => Bool.noConfusion z)
          refine wp_aload_n d_Asker_balance_71 rfl rfl ?_
          refine wl_getR d_Asker_balance_72 lf_Asker_24 sh_136 rfl ?_
          refine wp_iload d_Asker_balance_75 rfl ?_
          obtain ⟨v72, e71, e64⟩ := ob1_some e64
          refine wa_ald d_Asker_balance_77 sh_141 e71 ?_
          refine wp_sipush d_Asker_balance_78 (v := nI 1000) rfl ?_
          refine wq_icmp_ge 102 d_Asker_balance_81 rfl (fun h81 => ?_) (fun h81 => ?_)
          · cases e64
            exact k69 (fun z => h81 (of_decide_eq_true z))
          · cases e64
            exact k67 (decide_eq_true h81)
        refine wp_iload d_Asker_balance_38 rfl ?_
        refine wp_iload d_Asker_balance_40 rfl ?_
        refine wq_icmp_lt 64 d_Asker_balance_42 rfl (fun h42 => ?_) (fun h42 => ?_)
        · replace e12 := ip e12 h42
          cases e12
          refine wp_iconst d_Asker_balance_64 (v := nI 1) rfl ?_
          refine wp_goto 69 d_Asker_balance_65 rfl ?_
          exact wj_b1 rfl (k10 _)
        · replace e12 := inn e12 h42
          refine wp_iload d_Asker_balance_45 rfl ?_
          refine wp_iload d_Asker_balance_47 rfl ?_
          refine wq_icmp_ne 68 d_Asker_balance_49 rfl (fun h49 => ?_) (fun h49 => ?_)
          · replace e12 := inn e12 h49
            cases e12
            refine wp_iconst d_Asker_balance_68 (v := nI 0) rfl ?_
            exact wj_b0 (fun z => Bool.noConfusion z) (k10 _)
          · replace e12 := ip e12 h49
            refine wp_aload_n d_Asker_balance_52 rfl rfl ?_
            refine wl_getR d_Asker_balance_53 lf_Asker_24 sh_136 rfl ?_
            refine wp_iload d_Asker_balance_56 rfl ?_
            obtain ⟨v74, e73, e12⟩ := ob1_some e12
            refine wa_ald d_Asker_balance_58 sh_141 e73 ?_
            refine wp_iload d_Asker_balance_59 rfl ?_
            refine wq_icmp_ge 68 d_Asker_balance_61 rfl (fun h61 => ?_) (fun h61 => ?_)
            · cases e12
              refine wp_iconst d_Asker_balance_68 (v := nI 0) rfl ?_
              exact wj_b0 (fun z => h61 (of_decide_eq_true z)) (k10 _)
            · cases e12
              refine wp_iconst d_Asker_balance_64 (v := nI 1) rfl ?_
              refine wp_goto 69 d_Asker_balance_65 rfl ?_
              exact wj_b1 (decide_eq_true h61) (k10 _)
theorem s_Asker_balance {w_world : Nat} {what_ : Int32} {M : mM} {r : Int32} {M' : mM} (hw_world : isW w_world) (h : F_Asker_balance z w_world what_ M = some (r, M')) (hq : Q (some (.int r)) (lay M')) : Sp X (d + 4) f_Asker_balance [.ref 136, .ref w_world, .int what_] (lay M) Q := by
  refine Sp_of (by decide) rfl (Nat.le_of_ble_eq_true rfl) ?_
  refine wp_aload_n d_Asker_balance_0 rfl rfl ?_
  refine wp_aload_n d_Asker_balance_1 rfl rfl ?_
  obtain ⟨v1, M2, e3, h⟩ := ob2_some h
  refine wl_callV1 d_Asker_balance_2 lc_Asker_weighWasps lv_Asker_89 rfl sh_136 rfl rfl ⟨rfl, rfl⟩ ⟨by decide, by decide⟩ ?_
  refine s_Asker_weighWasps (d := d) hw_world e3 ?_
  refine wp_istore_n d_Asker_balance_5 rfl (by decide) ?_
  refine wp_sipush d_Asker_balance_6 (v := nI 1000) rfl ?_
  refine wp_istore d_Asker_balance_9 (by decide) ?_
  refine wp_iconst d_Asker_balance_11 (v := nI 0) rfl ?_
  refine wp_istore d_Asker_balance_12 (by decide) ?_
  refine wp_iconst d_Asker_balance_14 (v := nI 0) rfl ?_
  refine wp_istore d_Asker_balance_15 (by decide) ?_
  obtain ⟨apart_75, many_76, e78, h⟩ := ob2_some h
  refine l_Asker_balance_1 hw_world ?_ _ _ _ _ _ _ e78
  intro u6 u7 u8
  refine wp_iload_n d_Asker_balance_108 rfl rfl ?_
  refine wz_ne 114 d_Asker_balance_109 rfl (fun h109 => ?_) (fun h109 => ?_)
  · replace h := inn h h109
    have k77 : ∀ u6 u7 u8 : Value, wp X (d + 4) f_Asker_balance (0, 0) 125 [.ref 136, .ref w_world, .int what_, .int v1, .int apart_75, .int many_76, u6, u7, u8] [.int (if what_ = (nI 0) then apart_75 else many_76)] (lay M2) Q := by
      intro u6 u7 u8
      cases h
      exact wp_iret d_Asker_balance_125 rfl rfl rfl hq
    refine wp_iload_n d_Asker_balance_114 rfl rfl ?_
    refine wz_ne 123 d_Asker_balance_115 rfl (fun h115 => ?_) (fun h115 => ?_)
    · refine wp_iload d_Asker_balance_123 rfl ?_
      exact wj_in h115 (k77 _ _ _)
    · refine wp_iload d_Asker_balance_118 rfl ?_
      refine wp_goto 125 d_Asker_balance_120 rfl ?_
      exact wj_ip h115 (k77 _ _ _)
  · replace h := ip h h109
    refine wp_iconst d_Asker_balance_112 (v := nI 0) rfl ?_
    cases h
    exact wp_iret d_Asker_balance_113 rfl rfl rfl hq
def F_Rec_squires (z : Nat) (what_ : Int32) (M : mM) : Option (Int32 × mM) :=
  ob2 (if (F_Rec_within what_ (nI 0) (nI 1)) = true then
  ob2 (F_Asker_balance z 1 what_ M) fun v8 M9 =>
  some (v8, M9)
  else
  some ((-1), M)) fun v5 M7 =>
  some (v5, M7)
theorem s_Rec_squires {what_ : Int32} {M : mM} {r : Int32} {M' : mM} (h : F_Rec_squires z what_ M = some (r, M')) (hq : Q (some (.int r)) (lay M')) : Sp X (d + 5) f_Rec_squires [.ref 0, .int what_] (lay M) Q := by
  refine Sp_of (by decide) rfl (Nat.le_of_ble_eq_true rfl) ?_
  obtain ⟨v5, M7, e6, h⟩ := ob2_some h
  have k4 : wp X (d + 5) f_Rec_squires (0, 0) 25 [.ref 0, .int what_] [.int v5] (lay M7) Q := by
    cases h
    exact wp_iret d_Rec_squires_25 rfl rfl rfl hq
  refine wp_iload_n d_Rec_squires_0 rfl rfl ?_
  refine wp_iconst d_Rec_squires_1 (v := nI 0) rfl ?_
  refine wp_iconst d_Rec_squires_2 (v := nI 1) rfl ?_
  refine wl_callS3 d_Rec_squires_3 lc_Rec_within ls_Rec_96 rfl ⟨rfl, rfl⟩ ⟨by decide, by decide⟩ ?_
  refine s_Rec_within (d := d + 4) rfl ?_
  refine wc_eq 24 d_Rec_squires_6 rfl (fun h6 => ?_) (fun h6 => ?_)
  · replace e6 := inn e6 h6
    refine wp_iconst d_Rec_squires_24 (v := (-1)) rfl ?_
    cases e6
    exact k4
  · replace e6 := ip e6 h6
    refine wp_aload_n d_Rec_squires_9 rfl rfl ?_
    refine wl_getR d_Rec_squires_10 lf_Rec_57 sh_0 rfl ?_
    refine wp_aload_n d_Rec_squires_13 rfl rfl ?_
    refine wl_getR d_Rec_squires_14 lf_Rec_12 sh_0 rfl ?_
    refine wp_iload_n d_Rec_squires_17 rfl rfl ?_
    obtain ⟨v8, M9, e10, e6⟩ := ob2_some e6
    refine wl_callV2 d_Rec_squires_18 lc_Asker_balance lv_Rec_323 rfl sh_136 rfl rfl ⟨rfl, rfl⟩ ⟨by decide, by decide⟩ ?_
    refine s_Asker_balance (d := d) isW_1 e10 ?_
    cases e6
    refine wp_goto 25 d_Rec_squires_21 rfl ?_
    exact k4
def L_Asker_fingers_3 (z : Nat) (sum_ : Int32) (M : mM) : Nat → Int32 → Int32 → Option (Int32)
  | 0, _, _ => none
  | n + 1, all_, f_ =>
    if (¬ ((nI 5) < f_) ∧ ¬ (sum_ < f_)) then
    ob1 (ra M 142 31 (sum_ - f_)) fun v10 =>
    ob1 (some (jrem (all_ + v10) (nI 1000000007))) fun v11 =>
    L_Asker_fingers_3 z sum_ M n v11 (f_ + nI 1)
    else
    some (all_)
def L_Asker_fingers_2 (z : Nat) (least_ : Int32) : Nat → Int32 → mM → Option (mM)
  | 0, _, _ => none
  | n + 1, sum_, M =>
    if ¬ (sum_ < (nI 0)) then
    ob1 (L_Asker_fingers_3 z sum_ M z (nI 0) least_) fun all_13 =>
    ob1 (wa M 142 31 sum_ all_13) fun M15 =>
    L_Asker_fingers_2 z least_ n (sum_ + (-1)) M15
    else
    some (M)
def L_Asker_fingers_1 (z : Nat) (n_ : Int32) (hands_ : Int32) (least_ : Int32) : Nat → Int32 → mM → Option (mM)
  | 0, _, _ => none
  | n + 1, hand_, M =>
    if hand_ < hands_ then
    ob1 (some (F_Math_min n_ ((nI 31) - (nI 1)))) fun v5 =>
    ob1 (L_Asker_fingers_2 z least_ z v5 M) fun M17 =>
    L_Asker_fingers_1 z n_ hands_ least_ n (hand_ + nI 1) M17
    else
    some (M)
def F_Asker_fingers (z : Nat) (n_ : Int32) (hands_ : Int32) (least_ : Int32) (M : mM) : Option (Int32 × mM) :=
  ob1 (F_Arrays_fill z 142 31 (nI 0) M) fun M1 =>
  ob1 (wa M1 142 31 (nI 0) (nI 1)) fun M4 =>
  ob1 (L_Asker_fingers_1 z n_ hands_ least_ z (nI 0) M4) fun M19 =>
  ob1 (if n_ < (nI 31) then
  ob1 (ra M19 142 31 n_) fun v26 =>
  some (v26)
  else
  some (nI 0)) fun v23 =>
  some (v23, M19)
theorem l_Asker_fingers_3 {sum_ : Int32} {M : mM}  {q1 : Value} {q2 : Value} {q3 : Value} {q4 : Value} {all_r : Int32} (K : ∀ u7 : Value, wp X (d + 1) f_Asker_fingers (0, 0) 85 [.ref 136, q1, q2, q3, q4, .int sum_, .int all_r, u7] [] (lay M) Q) : ∀ (n : Nat) (all_ : Int32) (f_ : Int32), L_Asker_fingers_3 z sum_ M n all_ f_ = some (all_r) → wp X (d + 1) f_Asker_fingers (0, 0) 48 [.ref 136, q1, q2, q3, q4, .int sum_, .int all_, .int f_] [] (lay M) Q := by
  intro n
  induction n with
  | zero => intro all_ f_ h; exact nn h
  | succ n ih =>
    intro all_ f_ h
    have k7 : ¬ (¬ ((nI 5) < f_) ∧ ¬ (sum_ < f_)) → wp X (d + 1) f_Asker_fingers (0, 0) 85 [.ref 136, q1, q2, q3, q4, .int sum_, .int all_, .int f_] [] (lay M) Q := by
      intro x8
      replace h := inn h x8
      cases h
      exact K _
    refine wp_iload d_Asker_fingers_48 rfl ?_
    refine wp_iconst d_Asker_fingers_50 (v := nI 5) rfl ?_
    refine wq_icmp_gt 85 d_Asker_fingers_51 rfl (fun h51 => ?_) (fun h51 => ?_)
    · exact k7 (fun z => (fun z => z h51) z.1)
    · refine wp_iload d_Asker_fingers_54 rfl ?_
      refine wp_iload d_Asker_fingers_56 rfl ?_
      refine wq_icmp_gt 85 d_Asker_fingers_58 rfl (fun h58 => ?_) (fun h58 => ?_)
      · exact k7 (fun z => (fun z => z h58) z.2)
      · replace h := ip h ⟨h51, h58⟩
        refine wp_iload d_Asker_fingers_61 rfl ?_
        refine wp_aload_n d_Asker_fingers_63 rfl rfl ?_
        refine wl_getR d_Asker_fingers_64 lf_Asker_27 sh_136 rfl ?_
        refine wp_iload d_Asker_fingers_67 rfl ?_
        refine wp_iload d_Asker_fingers_69 rfl ?_
        refine wp_isub d_Asker_fingers_71 ?_
        obtain ⟨v10, e9, h⟩ := ob1_some h
        refine wa_ald d_Asker_fingers_72 sh_142 e9 ?_
        refine wp_iadd d_Asker_fingers_73 ?_
        refine wp_ldc (v := nI 1000000007) d_Asker_fingers_74 lk_Asker_68 ?_
        refine wp_irem d_Asker_fingers_76 (by decide) ?_
        obtain ⟨v11, e12, h⟩ := ob1_some h
        refine wx_int e12 ?_
        refine wp_istore d_Asker_fingers_77 (by decide) ?_
        refine wp_iinc d_Asker_fingers_79 (v := f_ + nI 1) rfl rfl ?_
        refine wp_goto 48 d_Asker_fingers_82 rfl ?_
        exact ih _ _ h
theorem l_Asker_fingers_2 {least_ : Int32}  {q1 : Value} {q2 : Value} {q4 : Value} {N' : mM} (K : ∀ u5 u6 u7 : Value, wp X (d + 1) f_Asker_fingers (0, 0) 100 [.ref 136, q1, q2, .int least_, q4, u5, u6, u7] [] (lay N') Q) : ∀ (n : Nat) (sum_ : Int32) (M : mM) (u6 u7 : Value), L_Asker_fingers_2 z least_ n sum_ M = some (N') → wp X (d + 1) f_Asker_fingers (0, 0) 37 [.ref 136, q1, q2, .int least_, q4, .int sum_, u6, u7] [] (lay M) Q := by
  intro n
  induction n with
  | zero => intro sum_ M u6 u7 h; exact nn h
  | succ n ih =>
    intro sum_ M u6 u7 h
    refine wp_iload d_Asker_fingers_37 rfl ?_
    refine wz_lt 100 d_Asker_fingers_39 rfl (fun h39 => ?_) (fun h39 => ?_)
    · replace h := inn h (fun z => z h39)
      cases h
      exact K _ _ _
    · replace h := ip h h39
      refine wp_iconst d_Asker_fingers_42 (v := nI 0) rfl ?_
      refine wp_istore d_Asker_fingers_43 (by decide) ?_
      refine wp_iload_n d_Asker_fingers_45 rfl rfl ?_
      refine wp_istore d_Asker_fingers_46 (by decide) ?_
      obtain ⟨all_13, e16, h⟩ := ob1_some h
      refine l_Asker_fingers_3 ?_ _ _ _ e16
      intro u7
      refine wp_aload_n d_Asker_fingers_85 rfl rfl ?_
      refine wl_getR d_Asker_fingers_86 lf_Asker_27 sh_136 rfl ?_
      refine wp_iload d_Asker_fingers_89 rfl ?_
      refine wp_iload d_Asker_fingers_91 rfl ?_
      obtain ⟨M15, e14, h⟩ := ob1_some h
      refine wa_ast d_Asker_fingers_93 sh_142 e14 ?_
      refine wp_iinc d_Asker_fingers_94 (v := sum_ + (-1)) rfl rfl ?_
      refine wp_goto 37 d_Asker_fingers_97 rfl ?_
      exact ih _ _ _ _ h
theorem l_Asker_fingers_1 {n_ : Int32} {hands_ : Int32} {least_ : Int32}  {N' : mM} (K : ∀ u4 u5 u6 u7 : Value, wp X (d + 1) f_Asker_fingers (0, 0) 106 [.ref 136, .int n_, .int hands_, .int least_, u4, u5, u6, u7] [] (lay N') Q) : ∀ (n : Nat) (hand_ : Int32) (M : mM) (u5 u6 u7 : Value), L_Asker_fingers_1 z n_ hands_ least_ n hand_ M = some (N') → wp X (d + 1) f_Asker_fingers (0, 0) 18 [.ref 136, .int n_, .int hands_, .int least_, .int hand_, u5, u6, u7] [] (lay M) Q := by
  intro n
  induction n with
  | zero => intro hand_ M u5 u6 u7 h; exact nn h
  | succ n ih =>
    intro hand_ M u5 u6 u7 h
    refine wp_iload d_Asker_fingers_18 rfl ?_
    refine wp_iload_n d_Asker_fingers_20 rfl rfl ?_
    refine wq_icmp_ge 106 d_Asker_fingers_21 rfl (fun h21 => ?_) (fun h21 => ?_)
    · replace h := inn h h21
      cases h
      exact K _ _ _ _
    · replace h := ip h h21
      refine wp_iload_n d_Asker_fingers_24 rfl rfl ?_
      refine wp_aload_n d_Asker_fingers_25 rfl rfl ?_
      refine wl_getR d_Asker_fingers_26 lf_Asker_27 sh_136 rfl ?_
      refine wl_alen (by decide) d_Asker_fingers_29 sh_142 ?_
      refine wp_iconst d_Asker_fingers_30 (v := nI 1) rfl ?_
      refine wp_isub d_Asker_fingers_31 ?_
      refine wl_mmin d_Asker_fingers_32 ls_Asker_69 rfl ⟨by decide, by decide⟩ ?_
      obtain ⟨v5, e6, h⟩ := ob1_some h
      refine wx_int e6 ?_
      refine wp_istore d_Asker_fingers_35 (by decide) ?_
      obtain ⟨M17, e18, h⟩ := ob1_some h
      refine l_Asker_fingers_2 ?_ _ _ _ _ _ e18
      intro u5 u6 u7
      refine wp_iinc d_Asker_fingers_100 (v := hand_ + nI 1) rfl rfl ?_
      refine wp_goto 18 d_Asker_fingers_103 rfl ?_
      exact ih _ _ _ _ _ h
theorem s_Asker_fingers {n_ : Int32} {hands_ : Int32} {least_ : Int32} {M : mM} {r : Int32} {M' : mM} (h : F_Asker_fingers z n_ hands_ least_ M = some (r, M')) (hq : Q (some (.int r)) (lay M')) : Sp X (d + 1) f_Asker_fingers [.ref 136, .int n_, .int hands_, .int least_] (lay M) Q := by
  refine Sp_of (by decide) rfl (Nat.le_of_ble_eq_true rfl) ?_
  refine wp_aload_n d_Asker_fingers_0 rfl rfl ?_
  refine wl_getR d_Asker_fingers_1 lf_Asker_27 sh_136 rfl ?_
  refine wp_iconst d_Asker_fingers_4 (v := nI 0) rfl ?_
  obtain ⟨M1, e2, h⟩ := ob1_some h
  refine wl_callS2 d_Asker_fingers_5 lc_Arrays_fill ls_Asker_34 rfl ⟨rfl, rfl⟩ ⟨by decide, by decide⟩ ?_
  refine s_Arrays_fill (d := d) sh_142 e2 ?_
  refine wp_aload_n d_Asker_fingers_8 rfl rfl ?_
  refine wl_getR d_Asker_fingers_9 lf_Asker_27 sh_136 rfl ?_
  refine wp_iconst d_Asker_fingers_12 (v := nI 0) rfl ?_
  refine wp_iconst d_Asker_fingers_13 (v := nI 1) rfl ?_
  obtain ⟨M4, e3, h⟩ := ob1_some h
  refine wa_ast d_Asker_fingers_14 sh_142 e3 ?_
  refine wp_iconst d_Asker_fingers_15 (v := nI 0) rfl ?_
  refine wp_istore d_Asker_fingers_16 (by decide) ?_
  obtain ⟨M19, e27, h⟩ := ob1_some h
  refine l_Asker_fingers_1 ?_ _ _ _ _ _ _ e27
  intro u4 u5 u6 u7
  obtain ⟨v23, e24, h⟩ := ob1_some h
  have k22 : ∀ u4 u5 u6 u7 : Value, wp X (d + 1) f_Asker_fingers (0, 0) 125 [.ref 136, .int n_, .int hands_, .int least_, u4, u5, u6, u7] [.int v23] (lay M19) Q := by
    intro u4 u5 u6 u7
    cases h
    exact wp_iret d_Asker_fingers_125 rfl rfl rfl hq
  refine wp_iload_n d_Asker_fingers_106 rfl rfl ?_
  refine wp_aload_n d_Asker_fingers_107 rfl rfl ?_
  refine wl_getR d_Asker_fingers_108 lf_Asker_27 sh_136 rfl ?_
  refine wl_alen (by decide) d_Asker_fingers_111 sh_142 ?_
  refine wq_icmp_ge 124 d_Asker_fingers_112 rfl (fun h112 => ?_) (fun h112 => ?_)
  · replace e24 := inn e24 h112
    refine wp_iconst d_Asker_fingers_124 (v := nI 0) rfl ?_
    cases e24
    exact k22 _ _ _ _
  · replace e24 := ip e24 h112
    refine wp_aload_n d_Asker_fingers_115 rfl rfl ?_
    refine wl_getR d_Asker_fingers_116 lf_Asker_27 sh_136 rfl ?_
    refine wp_iload_n d_Asker_fingers_119 rfl rfl ?_
    obtain ⟨v26, e25, e24⟩ := ob1_some e24
    refine wa_ald d_Asker_fingers_120 sh_142 e25 ?_
    cases e24
    refine wp_goto 125 d_Asker_fingers_121 rfl ?_
    exact k22 _ _ _ _
def F_Rec_held (z : Nat) (n_ : Int32) (k_ : Int32) (what_ : Int32) (M : mM) : Option (Int32 × mM) :=
  if ((¬ ((F_Rec_within n_ (nI 1) (nI 30)) = true) ∨ ¬ ((F_Rec_within k_ (nI 1) (nI 9)) = true)) ∨ ¬ ((F_Rec_within what_ (nI 0) (nI 1)) = true)) then
  some ((-1), M)
  else
  ob2 (F_Asker_fingers z n_ k_ what_ M) fun v3 M4 =>
  some (v3, M4)
theorem s_Rec_held {n_ : Int32} {k_ : Int32} {what_ : Int32} {M : mM} {r : Int32} {M' : mM} (h : F_Rec_held z n_ k_ what_ M = some (r, M')) (hq : Q (some (.int r)) (lay M')) : Sp X (d + 2) f_Rec_held [.ref 0, .int n_, .int k_, .int what_] (lay M) Q := by
  refine Sp_of (by decide) rfl (Nat.le_of_ble_eq_true rfl) ?_
  have k1 : ((¬ ((F_Rec_within n_ (nI 1) (nI 30)) = true) ∨ ¬ ((F_Rec_within k_ (nI 1) (nI 9)) = true)) ∨ ¬ ((F_Rec_within what_ (nI 0) (nI 1)) = true)) → wp X (d + 2) f_Rec_held (0, 0) 29 [.ref 0, .int n_, .int k_, .int what_] [] (lay M) Q := by
    intro x2
    replace h := ip h x2
    refine wp_iconst d_Rec_held_29 (v := (-1)) rfl ?_
    cases h
    exact wp_iret d_Rec_held_30 rfl rfl rfl hq
  refine wp_iload_n d_Rec_held_0 rfl rfl ?_
  refine wp_iconst d_Rec_held_1 (v := nI 1) rfl ?_
  refine wp_bipush d_Rec_held_2 (v := nI 30) rfl ?_
  refine wl_callS3 d_Rec_held_4 lc_Rec_within ls_Rec_96 rfl ⟨rfl, rfl⟩ ⟨by decide, by decide⟩ ?_
  refine s_Rec_within (d := d + 1) rfl ?_
  refine wc_eq 29 d_Rec_held_7 rfl (fun h7 => ?_) (fun h7 => ?_)
  · exact k1 (Or.inl (Or.inl h7))
  · refine wp_iload_n d_Rec_held_10 rfl rfl ?_
    refine wp_iconst d_Rec_held_11 (v := nI 1) rfl ?_
    refine wp_bipush d_Rec_held_12 (v := nI 9) rfl ?_
    refine wl_callS3 d_Rec_held_14 lc_Rec_within ls_Rec_96 rfl ⟨rfl, rfl⟩ ⟨by decide, by decide⟩ ?_
    refine s_Rec_within (d := d + 1) rfl ?_
    refine wc_eq 29 d_Rec_held_17 rfl (fun h17 => ?_) (fun h17 => ?_)
    · exact k1 (Or.inl (Or.inr h17))
    · refine wp_iload_n d_Rec_held_20 rfl rfl ?_
      refine wp_iconst d_Rec_held_21 (v := nI 0) rfl ?_
      refine wp_iconst d_Rec_held_22 (v := nI 1) rfl ?_
      refine wl_callS3 d_Rec_held_23 lc_Rec_within ls_Rec_96 rfl ⟨rfl, rfl⟩ ⟨by decide, by decide⟩ ?_
      refine s_Rec_within (d := d + 1) rfl ?_
      refine wc_ne 31 d_Rec_held_26 rfl (fun h26 => ?_) (fun h26 => ?_)
      · replace h := inn h (fun z => z.elim (fun z => z.elim (fun z => z h7) (fun z => z h17)) (fun z => z h26))
        refine wp_aload_n d_Rec_held_31 rfl rfl ?_
        refine wl_getR d_Rec_held_32 lf_Rec_57 sh_0 rfl ?_
        refine wp_iload_n d_Rec_held_35 rfl rfl ?_
        refine wp_iload_n d_Rec_held_36 rfl rfl ?_
        refine wp_iload_n d_Rec_held_37 rfl rfl ?_
        obtain ⟨v3, M4, e5, h⟩ := ob2_some h
        refine wl_callV3 d_Rec_held_38 lc_Asker_fingers lv_Rec_326 rfl sh_136 rfl rfl ⟨rfl, rfl⟩ ⟨by decide, by decide⟩ ?_
        refine s_Asker_fingers (d := d) e5 ?_
        cases h
        exact wp_iret d_Rec_held_41 rfl rfl rfl hq
      · exact k1 (Or.inr h26)
def F_Asker_worth (size_ : Int32) (M : mM) : Option (Int32) :=
  ob1 (if (¬ (size_ < (nI 0)) ∧ size_ < (nI 10)) then
  ob1 (rxs xWorths 10 size_) fun v11 =>
  some (v11)
  else
  some (nI 0)) fun v6 =>
  some (v6)
theorem s_Asker_worth {size_ : Int32} {M : mM} {r : Int32} (h : F_Asker_worth size_ M = some r) (hq : Q (some (.int r)) (lay M)) : Sp X d f_Asker_worth [.int size_] (lay M) Q := by
  refine Sp_of (by decide) rfl (Nat.le_of_ble_eq_true rfl) ?_
  obtain ⟨v6, e7, h⟩ := ob1_some h
  have k5 : wp X d f_Asker_worth (0, 0) 21 [.int size_] [.int v6] (lay M) Q := by
    cases h
    exact wp_iret d_Asker_worth_21 rfl rfl rfl hq
  have k8 : ¬ (¬ (size_ < (nI 0)) ∧ size_ < (nI 10)) → wp X d f_Asker_worth (0, 0) 20 [.int size_] [] (lay M) Q := by
    intro x9
    replace e7 := inn e7 x9
    refine wp_iconst d_Asker_worth_20 (v := nI 0) rfl ?_
    cases e7
    exact k5
  refine wp_iload_n d_Asker_worth_0 rfl rfl ?_
  refine wz_lt 20 d_Asker_worth_1 rfl (fun h1 => ?_) (fun h1 => ?_)
  · exact k8 (fun z => (fun z => z h1) z.1)
  · refine wp_iload_n d_Asker_worth_4 rfl rfl ?_
    refine wp_xget0 d_Asker_worth_5 lx_Asker_113 ?_
    refine wp_xlen d_Asker_worth_8 (k := 0) (by decide) rfl ?_
    refine wq_icmp_ge 20 d_Asker_worth_9 rfl (fun h9 => ?_) (fun h9 => ?_)
    · exact k8 (fun z => h9 z.2)
    · replace e7 := ip e7 ⟨h1, h9⟩
      refine wp_xget0 d_Asker_worth_12 lx_Asker_113 ?_
      refine wp_iload_n d_Asker_worth_15 rfl rfl ?_
      obtain ⟨v11, e10, e7⟩ := ob1_some e7
      refine wx_ald d_Asker_worth_16 (k := 0) (by decide) rfl rfl e10 ?_
      cases e7
      refine wp_goto 21 d_Asker_worth_17 rfl ?_
      exact k5
def F_Asker_takeFrom (size_ : Int32) (together_ : Int32) (M : mM) : Option (Int32) :=
  ob1 (F_Asker_worth size_ M) fun v1 =>
  ob1 (ob1 (F_Asker_worth (size_ - (nI 1)) M) fun v34 =>
  some (decide ((together_ ^^^ v1) = v34))) fun x3 =>
  if x3 = true then
  some (nI 1)
  else
  ob1 (ob1 (if ¬ ((nI 3) < size_) then ob1 (F_Asker_worth (nI 0) M) fun v32 =>
  some (decide ((together_ ^^^ v1) = v32))
  else some (false)) fun x24 =>
  if x24 = true then
  some (size_)
  else
  some ((-1))) fun v22 =>
  some (v22)
theorem s_Asker_takeFrom {size_ : Int32} {together_ : Int32} {M : mM} {r : Int32} (h : F_Asker_takeFrom size_ together_ M = some r) (hq : Q (some (.int r)) (lay M)) : Sp X (d + 1) f_Asker_takeFrom [.int size_, .int together_] (lay M) Q := by
  refine Sp_of (by decide) rfl (Nat.le_of_ble_eq_true rfl) ?_
  refine wp_iload_n d_Asker_takeFrom_0 rfl rfl ?_
  refine wp_iload_n d_Asker_takeFrom_1 rfl rfl ?_
  obtain ⟨v1, e2, h⟩ := ob1_some h
  refine wl_callS1 d_Asker_takeFrom_2 lc_Asker_worth ls_Asker_104 rfl ⟨rfl, rfl⟩ ⟨by decide, by decide⟩ ?_
  refine s_Asker_worth (d := d) e2 ?_
  refine wp_ixor d_Asker_takeFrom_5 ?_
  refine wp_istore_n d_Asker_takeFrom_6 rfl (by decide) ?_
  obtain ⟨x3, e4, h⟩ := ob1_some h
  have k7 : x3 = true → wp X (d + 1) f_Asker_takeFrom (0, 0) 17 [.int size_, .int together_, .int (together_ ^^^ v1)] [] (lay M) Q := by
    intro x8
    replace h := ip h x8
    refine wp_iconst d_Asker_takeFrom_17 (v := nI 1) rfl ?_
    cases h
    exact wp_iret d_Asker_takeFrom_18 rfl rfl rfl hq
  have k9 : ¬ x3 = true → wp X (d + 1) f_Asker_takeFrom (0, 0) 19 [.int size_, .int together_, .int (together_ ^^^ v1)] [] (lay M) Q := by
    intro x10
    replace h := inn h x10
    obtain ⟨v22, e23, h⟩ := ob1_some h
    have k21 : wp X (d + 1) f_Asker_takeFrom (0, 0) 37 [.int size_, .int together_, .int (together_ ^^^ v1)] [.int v22] (lay M) Q := by
      cases h
      exact wp_iret d_Asker_takeFrom_37 rfl rfl rfl hq
    obtain ⟨x24, e25, e23⟩ := ob1_some e23
    have k28 : x24 = true → wp X (d + 1) f_Asker_takeFrom (0, 0) 32 [.int size_, .int together_, .int (together_ ^^^ v1)] [] (lay M) Q := by
      intro x29
      replace e23 := ip e23 x29
      refine wp_iload_n d_Asker_takeFrom_32 rfl rfl ?_
      cases e23
      refine wp_goto 37 d_Asker_takeFrom_33 rfl ?_
      exact k21
    have k30 : ¬ x24 = true → wp X (d + 1) f_Asker_takeFrom (0, 0) 36 [.int size_, .int together_, .int (together_ ^^^ v1)] [] (lay M) Q := by
      intro x31
      replace e23 := inn e23 x31
      refine wp_iconst d_Asker_takeFrom_36 (v := (-1)) rfl ?_
      cases e23
      exact k21
    refine wp_iload_n d_Asker_takeFrom_19 rfl rfl ?_
    refine wp_iconst d_Asker_takeFrom_20 (v := nI 3) rfl ?_
    refine wq_icmp_gt 36 d_Asker_takeFrom_21 rfl (fun h21 => ?_) (fun h21 => ?_)
    · replace e25 := inn e25 (fun z => z h21)
      cases e25
      exact k30 (fun z => Bool.noConfusion z)
    · replace e25 := ip e25 h21
      refine wp_iload_n d_Asker_takeFrom_24 rfl rfl ?_
      refine wp_iconst d_Asker_takeFrom_25 (v := nI 0) rfl ?_
      obtain ⟨v32, e33, e25⟩ := ob1_some e25
      refine wl_callS1 d_Asker_takeFrom_26 lc_Asker_worth ls_Asker_104 rfl ⟨rfl, rfl⟩ ⟨by decide, by decide⟩ ?_
      refine s_Asker_worth (d := d) e33 ?_
      refine wq_icmp_ne 36 d_Asker_takeFrom_29 rfl (fun h29 => ?_) (fun h29 => ?_)
      · cases e25
        exact k30 (fun z => h29 (of_decide_eq_true z))
      · cases e25
        exact k28 (decide_eq_true h29)
  refine wp_iload_n d_Asker_takeFrom_7 rfl rfl ?_
  refine wp_iload_n d_Asker_takeFrom_8 rfl rfl ?_
  refine wp_iconst d_Asker_takeFrom_9 (v := nI 1) rfl ?_
  refine wp_isub d_Asker_takeFrom_10 ?_
  obtain ⟨v34, e35, e4⟩ := ob1_some e4
  refine wl_callS1 d_Asker_takeFrom_11 lc_Asker_worth ls_Asker_104 rfl ⟨rfl, rfl⟩ ⟨by decide, by decide⟩ ?_
  refine s_Asker_worth (d := d) e35 ?_
  refine wq_icmp_ne 19 d_Asker_takeFrom_14 rfl (fun h14 => ?_) (fun h14 => ?_)
  · cases e4
    exact k9 (fun z => h14 (of_decide_eq_true z))
  · cases e4
    exact k7 (decide_eq_true h14)
def L_Asker_bestTake_1 (z : Nat) (w_world : Nat) (M : mM) : Nat → Int32 → Int32 → Option (Int32)
  | 0, _, _ => none
  | n + 1, together_, i_ =>
    if i_ < (M w_world 5) then
    ob1 (rT M (w_world + 4) 20 i_) fun c2 =>
    ob1 (F_Asker_worth (M c2 2) M) fun v3 =>
    L_Asker_bestTake_1 z w_world M n (together_ ^^^ v3) (i_ + nI 1)
    else
    some (together_)
def L_Asker_bestTake_2 (z : Nat) (w_world : Nat) (what_ : Int32) (together_ : Int32) (M : mM) (kt : Option (Int32)) : Nat → Int32 → Option (Int32)
  | 0, _ => none
  | n + 1, i_ =>
    if i_ < (nI 60) then
    ob1 (F_World_thingAt z w_world i_ M) fun c6 =>
    ob1 (if c6 = none then
    some ((-1))
    else
    ob1 (dT c6) fun c22 =>
    ob1 (F_Asker_takeFrom (M c22 2) together_ M) fun v24 =>
    some (v24)) fun v13 =>
    if ¬ (v13 = (-1)) then
    ob1 (if what_ = (nI 0) then
    ob1 (dT c6) fun c20 =>
    some (M c20 0)
    else
    some (v13)) fun v18 =>
    some (v18)
    else
    L_Asker_bestTake_2 z w_world what_ together_ M kt n (i_ + nI 1)
    else
    kt 
def F_Asker_bestTake (z : Nat) (w_world : Nat) (what_ : Int32) (M : mM) : Option (Int32) :=
  ob1 (L_Asker_bestTake_1 z w_world M z (nI 0) (nI 0)) fun together_5 =>
  L_Asker_bestTake_2 z w_world what_ together_5 M (some ((-1))) z (nI 0)
theorem l_Asker_bestTake_1 {w_world : Nat} {M : mM}  {q2 : Value} {together_r : Int32} (hw_world : isW w_world) (K : ∀ u4 u5 u6 : Value, wp X (d + 3) f_Asker_bestTake (0, 0) 36 [.ref 136, .ref w_world, q2, .int together_r, u4, u5, u6] [] (lay M) Q) : ∀ (n : Nat) (together_ : Int32) (i_ : Int32) (u5 u6 : Value), L_Asker_bestTake_1 z w_world M n together_ i_ = some (together_r) → wp X (d + 3) f_Asker_bestTake (0, 0) 5 [.ref 136, .ref w_world, q2, .int together_, .int i_, u5, u6] [] (lay M) Q := by
  intro n
  induction n with
  | zero => intro together_ i_ u5 u6 h; exact nn h
  | succ n ih =>
    intro together_ i_ u5 u6 h
    refine wp_iload d_Asker_bestTake_5 rfl ?_
    refine wp_aload_n d_Asker_bestTake_7 rfl rfl ?_
    refine wl_getI d_Asker_bestTake_8 lf_Asker_97 (shW0 hw_world) rfl rfl ?_
    refine wq_icmp_ge 36 d_Asker_bestTake_11 rfl (fun h11 => ?_) (fun h11 => ?_)
    · replace h := inn h h11
      cases h
      exact K _ _ _
    · replace h := ip h h11
      refine wp_iload_n d_Asker_bestTake_14 rfl rfl ?_
      refine wp_aload_n d_Asker_bestTake_15 rfl rfl ?_
      refine wl_getR d_Asker_bestTake_16 lf_Asker_100 (shW0 hw_world) rfl ?_
      refine wp_iload d_Asker_bestTake_19 rfl ?_
      obtain ⟨c2, e1, h⟩ := ob1_some h
      have tc2 := rT_th e1
      refine wa_aald d_Asker_bestTake_21 (shW4 hw_world) e1 ?_
      refine wl_getI d_Asker_bestTake_22 lf_Asker_88 (shTh tc2) rfl rfl ?_
      obtain ⟨v3, e4, h⟩ := ob1_some h
      refine wl_callS1 d_Asker_bestTake_25 lc_Asker_worth ls_Asker_104 rfl ⟨rfl, rfl⟩ ⟨by decide, by decide⟩ ?_
      refine s_Asker_worth (d := d + 2) e4 ?_
      refine wp_ixor d_Asker_bestTake_28 ?_
      refine wp_istore_n d_Asker_bestTake_29 rfl (by decide) ?_
      refine wp_iinc d_Asker_bestTake_30 (v := i_ + nI 1) rfl rfl ?_
      refine wp_goto 5 d_Asker_bestTake_33 rfl ?_
      exact ih _ _ _ _ h
theorem l_Asker_bestTake_2 {w_world : Nat} {what_ : Int32} {together_ : Int32} {M : mM} {kt : Option (Int32)}  {r : Int32} (hw_world : isW w_world) (hq : Q (some (.int r)) (lay M)) (K : ∀  (u4 u5 u6 : Value), kt  = some r → wp X (d + 3) f_Asker_bestTake (0, 0) 101 [.ref 136, .ref w_world, .int what_, .int together_, u4, u5, u6] [] (lay M) Q) : ∀ (n : Nat) (i_ : Int32) (u5 u6 : Value), L_Asker_bestTake_2 z w_world what_ together_ M kt n i_ = some r → wp X (d + 3) f_Asker_bestTake (0, 0) 39 [.ref 136, .ref w_world, .int what_, .int together_, .int i_, u5, u6] [] (lay M) Q := by
  intro n
  induction n with
  | zero => intro i_ u5 u6 h; exact nn h
  | succ n ih =>
    intro i_ u5 u6 h
    refine wp_iload d_Asker_bestTake_39 rfl ?_
    refine wp_bipush d_Asker_bestTake_41 (v := nI 60) rfl ?_
    refine wq_icmp_ge 101 d_Asker_bestTake_43 rfl (fun h43 => ?_) (fun h43 => ?_)
    · replace h := inn h h43
      exact K _ _ _ h
    · replace h := ip h h43
      refine wp_aload_n d_Asker_bestTake_46 rfl rfl ?_
      refine wp_iload d_Asker_bestTake_47 rfl ?_
      obtain ⟨c6, e7, h⟩ := ob1_some h
      refine wl_callV1 d_Asker_bestTake_49 lc_World_thingAt lv_Asker_50 rfl (shW0 hw_world) rfl rfl ⟨rfl, rfl⟩ ⟨by decide, by decide⟩ ?_
      refine s_World_thingAt (d := d) hw_world e7 ?_
      refine wr_astore d_Asker_bestTake_52 (by decide) ?_
      obtain ⟨v13, e14, h⟩ := ob1_some h
      have k12 : ∀ u6 : Value, wp X (d + 3) f_Asker_bestTake (0, 0) 72 [.ref 136, .ref w_world, .int what_, .int together_, .int i_, rvO c6, u6] [.int v13] (lay M) Q := by
        intro u6
        refine wp_istore d_Asker_bestTake_72 (by decide) ?_
        refine wp_iload d_Asker_bestTake_74 rfl ?_
        refine wp_iconst d_Asker_bestTake_76 (v := (-1)) rfl ?_
        refine wq_icmp_eq 95 d_Asker_bestTake_77 rfl (fun h77 => ?_) (fun h77 => ?_)
        · replace h := inn h (fun z => z h77)
          refine wp_iinc d_Asker_bestTake_95 (v := i_ + nI 1) rfl rfl ?_
          refine wp_goto 39 d_Asker_bestTake_98 rfl ?_
          exact ih _ _ _ h
        · replace h := ip h h77
          obtain ⟨v18, e19, h⟩ := ob1_some h
          have k17 : wp X (d + 3) f_Asker_bestTake (0, 0) 94 [.ref 136, .ref w_world, .int what_, .int together_, .int i_, rvO c6, .int v13] [.int v18] (lay M) Q := by
            cases h
            exact wp_iret d_Asker_bestTake_94 rfl rfl rfl hq
          refine wp_iload_n d_Asker_bestTake_80 rfl rfl ?_
          refine wz_ne 92 d_Asker_bestTake_81 rfl (fun h81 => ?_) (fun h81 => ?_)
          · replace e19 := inn e19 h81
            refine wp_iload d_Asker_bestTake_92 rfl ?_
            cases e19
            exact k17
          · replace e19 := ip e19 h81
            refine wr_aload d_Asker_bestTake_84 rfl ?_
            obtain ⟨c20, e21, e19⟩ := ob1_some e19
            refine wr_deref e21 ?_
            have tc20 := dT_th e21
            refine wl_getI d_Asker_bestTake_86 lf_Asker_110 (shTh tc20) rfl rfl ?_
            cases e19
            refine wp_goto 94 d_Asker_bestTake_89 rfl ?_
            exact k17
      refine wr_aload d_Asker_bestTake_54 rfl ?_
      refine wr_ifnonnull 63 d_Asker_bestTake_56 rfl (fun h56 => ?_) (fun h56 => ?_)
      · replace e14 := inn e14 h56
        refine wr_aload d_Asker_bestTake_63 rfl ?_
        obtain ⟨c22, e23, e14⟩ := ob1_some e14
        refine wr_deref e23 ?_
        have tc22 := dT_th e23
        refine wl_getI d_Asker_bestTake_65 lf_Asker_88 (shTh tc22) rfl rfl ?_
        refine wp_iload_n d_Asker_bestTake_68 rfl rfl ?_
        obtain ⟨v24, e25, e14⟩ := ob1_some e14
        refine wl_callS2 d_Asker_bestTake_69 lc_Asker_takeFrom ls_Asker_107 rfl ⟨rfl, rfl⟩ ⟨by decide, by decide⟩ ?_
        refine s_Asker_takeFrom (d := d + 1) e25 ?_
        cases e14
        exact k12 _
      · replace e14 := ip e14 h56
        refine wp_iconst d_Asker_bestTake_59 (v := (-1)) rfl ?_
        cases e14
        refine wp_goto 72 d_Asker_bestTake_60 rfl ?_
        exact k12 _
theorem s_Asker_bestTake {w_world : Nat} {what_ : Int32} {M : mM} {r : Int32} (hw_world : isW w_world) (h : F_Asker_bestTake z w_world what_ M = some r) (hq : Q (some (.int r)) (lay M)) : Sp X (d + 3) f_Asker_bestTake [.ref 136, .ref w_world, .int what_] (lay M) Q := by
  refine Sp_of (by decide) rfl (Nat.le_of_ble_eq_true rfl) ?_
  refine wp_iconst d_Asker_bestTake_0 (v := nI 0) rfl ?_
  refine wp_istore_n d_Asker_bestTake_1 rfl (by decide) ?_
  refine wp_iconst d_Asker_bestTake_2 (v := nI 0) rfl ?_
  refine wp_istore d_Asker_bestTake_3 (by decide) ?_
  obtain ⟨together_5, e26, h⟩ := ob1_some h
  refine l_Asker_bestTake_1 hw_world ?_ _ _ _ _ _ e26
  intro u4 u5 u6
  refine wp_iconst d_Asker_bestTake_36 (v := nI 0) rfl ?_
  refine wp_istore d_Asker_bestTake_37 (by decide) ?_
  refine l_Asker_bestTake_2 hw_world hq ?_ _ _ _ _ h
  intro u4 u5 u6 h
  refine wp_iconst d_Asker_bestTake_101 (v := (-1)) rfl ?_
  cases h
  exact wp_iret d_Asker_bestTake_102 rfl rfl rfl hq
def F_Rec_game (z : Nat) (what_ : Int32) (M : mM) : Option (Int32) :=
  ob1 (if (F_Rec_within what_ (nI 0) (nI 1)) = true then
  ob1 (F_Asker_bestTake z 1 what_ M) fun v6 =>
  some (v6)
  else
  some ((-1))) fun v4 =>
  some (v4)
theorem s_Rec_game {what_ : Int32} {M : mM} {r : Int32} (h : F_Rec_game z what_ M = some r) (hq : Q (some (.int r)) (lay M)) : Sp X (d + 4) f_Rec_game [.ref 0, .int what_] (lay M) Q := by
  refine Sp_of (by decide) rfl (Nat.le_of_ble_eq_true rfl) ?_
  obtain ⟨v4, e5, h⟩ := ob1_some h
  have k3 : wp X (d + 4) f_Rec_game (0, 0) 25 [.ref 0, .int what_] [.int v4] (lay M) Q := by
    cases h
    exact wp_iret d_Rec_game_25 rfl rfl rfl hq
  refine wp_iload_n d_Rec_game_0 rfl rfl ?_
  refine wp_iconst d_Rec_game_1 (v := nI 0) rfl ?_
  refine wp_iconst d_Rec_game_2 (v := nI 1) rfl ?_
  refine wl_callS3 d_Rec_game_3 lc_Rec_within ls_Rec_96 rfl ⟨rfl, rfl⟩ ⟨by decide, by decide⟩ ?_
  refine s_Rec_within (d := d + 3) rfl ?_
  refine wc_eq 24 d_Rec_game_6 rfl (fun h6 => ?_) (fun h6 => ?_)
  · replace e5 := inn e5 h6
    refine wp_iconst d_Rec_game_24 (v := (-1)) rfl ?_
    cases e5
    exact k3
  · replace e5 := ip e5 h6
    refine wp_aload_n d_Rec_game_9 rfl rfl ?_
    refine wl_getR d_Rec_game_10 lf_Rec_57 sh_0 rfl ?_
    refine wp_aload_n d_Rec_game_13 rfl rfl ?_
    refine wl_getR d_Rec_game_14 lf_Rec_12 sh_0 rfl ?_
    refine wp_iload_n d_Rec_game_17 rfl rfl ?_
    obtain ⟨v6, e7, e5⟩ := ob1_some e5
    refine wl_callV2 d_Rec_game_18 lc_Asker_bestTake lv_Rec_330 rfl sh_136 rfl rfl ⟨rfl, rfl⟩ ⟨by decide, by decide⟩ ?_
    refine s_Asker_bestTake (d := d) isW_1 e7 ?_
    cases e5
    refine wp_goto 25 d_Rec_game_21 rfl ?_
    exact k3
def F_Rec_undo (z : Nat) (M : mM) : Option (Bool × mM) :=
  if (M 0 7) = (nI 0) then
  some (false, M)
  else
  ob1 (some (up M 0 7 ((M 0 7) - (nI 1)))) fun M1 =>
  ob1 (some (jrem (((M1 0 6) + (nI 6)) - (nI 1)) (nI 6))) fun v3 =>
  ob1 (some (up M1 0 6 v3)) fun M5 =>
  ob1 (rW M5 99 6 (M5 0 6)) fun w8 =>
  ob1 (F_World_copyFrom z 1 w8 M5) fun M9 =>
  some (true, M9)
theorem s_Rec_undo {M : mM} {r : Bool} {M' : mM} (h : F_Rec_undo z M = some (r, M')) (hq : Q (some (.int (bI r))) (lay M')) : Sp X (d + 3) f_Rec_undo [.ref 0] (lay M) Q := by
  refine Sp_of (by decide) rfl (Nat.le_of_ble_eq_true rfl) ?_
  refine wp_aload_n d_Rec_undo_0 rfl rfl ?_
  refine wl_getI d_Rec_undo_1 lf_Rec_41 sh_0 rfl rfl ?_
  refine wz_ne 9 d_Rec_undo_4 rfl (fun h4 => ?_) (fun h4 => ?_)
  · replace h := inn h h4
    refine wp_aload_n d_Rec_undo_9 rfl rfl ?_
    refine wp_dup d_Rec_undo_10 rfl ?_
    refine wl_getI d_Rec_undo_11 lf_Rec_41 sh_0 rfl rfl ?_
    refine wp_iconst d_Rec_undo_14 (v := nI 1) rfl ?_
    refine wp_isub d_Rec_undo_15 ?_
    refine wl_put d_Rec_undo_16 lp_Rec_41 sh_0 rfl ⟨rfl, rfl⟩ ?_
    obtain ⟨M1, e2, h⟩ := ob1_some h
    refine wx_M e2 ?_
    refine wp_aload_n d_Rec_undo_19 rfl rfl ?_
    refine wp_aload_n d_Rec_undo_20 rfl rfl ?_
    refine wl_getI d_Rec_undo_21 lf_Rec_37 sh_0 rfl rfl ?_
    refine wp_bipush d_Rec_undo_24 (v := nI 6) rfl ?_
    refine wp_iadd d_Rec_undo_26 ?_
    refine wp_iconst d_Rec_undo_27 (v := nI 1) rfl ?_
    refine wp_isub d_Rec_undo_28 ?_
    refine wp_bipush d_Rec_undo_29 (v := nI 6) rfl ?_
    refine wp_irem d_Rec_undo_31 (by decide) ?_
    obtain ⟨v3, e4, h⟩ := ob1_some h
    refine wx_int e4 ?_
    refine wl_put d_Rec_undo_32 lp_Rec_37 sh_0 rfl ⟨rfl, rfl⟩ ?_
    obtain ⟨M5, e6, h⟩ := ob1_some h
    refine wx_M e6 ?_
    refine wp_aload_n d_Rec_undo_35 rfl rfl ?_
    refine wl_getR d_Rec_undo_36 lf_Rec_12 sh_0 rfl ?_
    refine wp_aload_n d_Rec_undo_39 rfl rfl ?_
    refine wl_getR d_Rec_undo_40 lf_Rec_33 sh_0 rfl ?_
    refine wp_aload_n d_Rec_undo_43 rfl rfl ?_
    refine wl_getI d_Rec_undo_44 lf_Rec_37 sh_0 rfl rfl ?_
    obtain ⟨w8, e7, h⟩ := ob1_some h
    have tw8 := rW_w e7
    refine wa_aaldW d_Rec_undo_47 sh_99 e7 ?_
    obtain ⟨M9, e10, h⟩ := ob1_some h
    refine wl_callV1 d_Rec_undo_48 lc_World_copyFrom lv_Rec_209 rfl (shW0 isW_1) rfl rfl ⟨rfl, rfl⟩ ⟨by decide, by decide⟩ ?_
    refine s_World_copyFrom (d := d) isW_1 tw8 e10 ?_
    refine wp_iconst d_Rec_undo_51 (v := bI true) rfl ?_
    cases h
    exact wb_iret d_Rec_undo_52 rfl rfl hq
  · replace h := ip h h4
    refine wp_iconst d_Rec_undo_7 (v := bI false) rfl ?_
    cases h
    exact wb_iret d_Rec_undo_8 rfl rfl hq
def F_Told_copyFrom (t : Nat) (t_other : Nat) (M : mM) : Option mM :=
  ob1 (F_Law_take (t + 1) ((t_other + 1) + 1) 5 16 ((t_other + 1) + 3) 400 (M (t_other + 1) 2) M) fun M1 =>
  ob1 (F_Rows_copyFrom (t + 6) 5 16 (t_other + 6) 5 16 M1) fun M3 =>
  ob1 (F_Rows_copyFrom (t + 8) 5 16 (t_other + 8) 5 16 M3) fun M5 =>
  ob1 (F_Rows_copyFrom (t + 10) 5 16 (t_other + 10) 5 16 M5) fun M7 =>
  ob1 (F_Rows_copyFrom (t + 12) 1 8 (t_other + 12) 1 8 M7) fun M9 =>
  ob1 (F_Rows_copyFrom (t + 14) 2 6 (t_other + 14) 2 6 M9) fun M11 =>
  ob1 (F_Rows_copyFrom (t + 16) 1 8 (t_other + 16) 1 8 M11) fun M13 =>
  ob1 (F_Rows_copyFrom (t + 18) 2 9 (t_other + 18) 2 9 M13) fun M15 =>
  ob1 (F_Rows_copyFrom (t + 20) 2 9 (t_other + 20) 2 9 M15) fun M17 =>
  some M17
theorem s_Told_copyFrom {t : Nat} {t_other : Nat} {M : mM} {M' : mM} (ht : isTd t) (ht_other : isTd t_other) (h : F_Told_copyFrom t t_other M = some M') (hq : Q none (lay M')) : Sp X (d + 3) f_Told_copyFrom [.ref t, .ref t_other] (lay M) Q := by
  refine Sp_of (by decide) rfl (Nat.le_of_ble_eq_true rfl) ?_
  refine wp_aload_n d_Told_copyFrom_0 rfl rfl ?_
  refine wl_getR d_Told_copyFrom_1 lf_Told_12 (shT0 ht) rfl ?_
  refine wp_aload_n d_Told_copyFrom_4 rfl rfl ?_
  refine wl_getR d_Told_copyFrom_5 lf_Told_12 (shT0 ht_other) rfl ?_
  refine wl_getR d_Told_copyFrom_8 lf_Told_69 (shL0 (isL_of ht_other)) rfl ?_
  refine wp_aload_n d_Told_copyFrom_11 rfl rfl ?_
  refine wl_getR d_Told_copyFrom_12 lf_Told_12 (shT0 ht_other) rfl ?_
  refine wl_getR d_Told_copyFrom_15 lf_Told_72 (shL0 (isL_of ht_other)) rfl ?_
  refine wp_aload_n d_Told_copyFrom_18 rfl rfl ?_
  refine wl_getR d_Told_copyFrom_19 lf_Told_12 (shT0 ht_other) rfl ?_
  refine wl_getI d_Told_copyFrom_22 lf_Told_73 (shL0 (isL_of ht_other)) rfl rfl ?_
  obtain ⟨M1, e2, h⟩ := ob1_some h
  refine wl_callV3 d_Told_copyFrom_25 lc_Law_take lv_Told_61 rfl (shL0 (isL_of ht)) rfl rfl ⟨rfl, rfl⟩ ⟨by decide, by decide⟩ ?_
  refine s_Law_take (d := d) (isL_of ht) (isR_lines (isL_of ht_other)) (shL3 (isL_of ht_other)) e2 ?_
  refine wp_aload_n d_Told_copyFrom_28 rfl rfl ?_
  refine wl_getR d_Told_copyFrom_29 lf_Told_23 (shT0 ht) rfl ?_
  refine wp_aload_n d_Told_copyFrom_32 rfl rfl ?_
  refine wl_getR d_Told_copyFrom_33 lf_Told_23 (shT0 ht_other) rfl ?_
  obtain ⟨M3, e4, h⟩ := ob1_some h
  refine wl_callV1 d_Told_copyFrom_36 lc_Rows_copyFrom lv_Told_65 rfl (isR0 (isR_flight ht)) rfl rfl ⟨rfl, rfl⟩ ⟨by decide, by decide⟩ ?_
  refine s_Rows_copyFrom (d := d + 1) (isR_flight ht) (isR_flight ht_other) e4 ?_
  refine wp_aload_n d_Told_copyFrom_39 rfl rfl ?_
  refine wl_getR d_Told_copyFrom_40 lf_Told_27 (shT0 ht) rfl ?_
  refine wp_aload_n d_Told_copyFrom_43 rfl rfl ?_
  refine wl_getR d_Told_copyFrom_44 lf_Told_27 (shT0 ht_other) rfl ?_
  obtain ⟨M5, e6, h⟩ := ob1_some h
  refine wl_callV1 d_Told_copyFrom_47 lc_Rows_copyFrom lv_Told_65 rfl (isR0 (isR_sky ht)) rfl rfl ⟨rfl, rfl⟩ ⟨by decide, by decide⟩ ?_
  refine s_Rows_copyFrom (d := d + 1) (isR_sky ht) (isR_sky ht_other) e6 ?_
  refine wp_aload_n d_Told_copyFrom_50 rfl rfl ?_
  refine wl_getR d_Told_copyFrom_51 lf_Told_30 (shT0 ht) rfl ?_
  refine wp_aload_n d_Told_copyFrom_54 rfl rfl ?_
  refine wl_getR d_Told_copyFrom_55 lf_Told_30 (shT0 ht_other) rfl ?_
  obtain ⟨M7, e8, h⟩ := ob1_some h
  refine wl_callV1 d_Told_copyFrom_58 lc_Rows_copyFrom lv_Told_65 rfl (isR0 (isR_strips ht)) rfl rfl ⟨rfl, rfl⟩ ⟨by decide, by decide⟩ ?_
  refine s_Rows_copyFrom (d := d + 1) (isR_strips ht) (isR_strips ht_other) e8 ?_
  refine wp_aload_n d_Told_copyFrom_61 rfl rfl ?_
  refine wl_getR d_Told_copyFrom_62 lf_Told_33 (shT0 ht) rfl ?_
  refine wp_aload_n d_Told_copyFrom_65 rfl rfl ?_
  refine wl_getR d_Told_copyFrom_66 lf_Told_33 (shT0 ht_other) rfl ?_
  obtain ⟨M9, e10, h⟩ := ob1_some h
  refine wl_callV1 d_Told_copyFrom_69 lc_Rows_copyFrom lv_Told_65 rfl (isR0 (isR_row ht)) rfl rfl ⟨rfl, rfl⟩ ⟨by decide, by decide⟩ ?_
  refine s_Rows_copyFrom (d := d + 1) (isR_row ht) (isR_row ht_other) e10 ?_
  refine wp_aload_n d_Told_copyFrom_72 rfl rfl ?_
  refine wl_getR d_Told_copyFrom_73 lf_Told_36 (shT0 ht) rfl ?_
  refine wp_aload_n d_Told_copyFrom_76 rfl rfl ?_
  refine wl_getR d_Told_copyFrom_77 lf_Told_36 (shT0 ht_other) rfl ?_
  obtain ⟨M11, e12, h⟩ := ob1_some h
  refine wl_callV1 d_Told_copyFrom_80 lc_Rows_copyFrom lv_Told_65 rfl (isR0 (isR_words ht)) rfl rfl ⟨rfl, rfl⟩ ⟨by decide, by decide⟩ ?_
  refine s_Rows_copyFrom (d := d + 1) (isR_words ht) (isR_words ht_other) e12 ?_
  refine wp_aload_n d_Told_copyFrom_83 rfl rfl ?_
  refine wl_getR d_Told_copyFrom_84 lf_Told_39 (shT0 ht) rfl ?_
  refine wp_aload_n d_Told_copyFrom_87 rfl rfl ?_
  refine wl_getR d_Told_copyFrom_88 lf_Told_39 (shT0 ht_other) rfl ?_
  obtain ⟨M13, e14, h⟩ := ob1_some h
  refine wl_callV1 d_Told_copyFrom_91 lc_Rows_copyFrom lv_Told_65 rfl (isR0 (isR_looks ht)) rfl rfl ⟨rfl, rfl⟩ ⟨by decide, by decide⟩ ?_
  refine s_Rows_copyFrom (d := d + 1) (isR_looks ht) (isR_looks ht_other) e14 ?_
  refine wp_aload_n d_Told_copyFrom_94 rfl rfl ?_
  refine wl_getR d_Told_copyFrom_95 lf_Told_42 (shT0 ht) rfl ?_
  refine wp_aload_n d_Told_copyFrom_98 rfl rfl ?_
  refine wl_getR d_Told_copyFrom_99 lf_Told_42 (shT0 ht_other) rfl ?_
  obtain ⟨M15, e16, h⟩ := ob1_some h
  refine wl_callV1 d_Told_copyFrom_102 lc_Rows_copyFrom lv_Told_65 rfl (isR0 (isR_veins ht)) rfl rfl ⟨rfl, rfl⟩ ⟨by decide, by decide⟩ ?_
  refine s_Rows_copyFrom (d := d + 1) (isR_veins ht) (isR_veins ht_other) e16 ?_
  refine wp_aload_n d_Told_copyFrom_105 rfl rfl ?_
  refine wl_getR d_Told_copyFrom_106 lf_Told_45 (shT0 ht) rfl ?_
  refine wp_aload_n d_Told_copyFrom_109 rfl rfl ?_
  refine wl_getR d_Told_copyFrom_110 lf_Told_45 (shT0 ht_other) rfl ?_
  obtain ⟨M17, e18, h⟩ := ob1_some h
  refine wl_callV1 d_Told_copyFrom_113 lc_Rows_copyFrom lv_Told_65 rfl (isR0 (isR_otherVeins ht)) rfl rfl ⟨rfl, rfl⟩ ⟨by decide, by decide⟩ ?_
  refine s_Rows_copyFrom (d := d + 1) (isR_otherVeins ht) (isR_otherVeins ht_other) e18 ?_
  cases h
  exact wp_ret d_Told_copyFrom_116 rfl rfl hq
def F_Rec_image (z : Nat) (taken_ : Bool) (M : mM) : Option (Bool × mM) :=
  if taken_ = true then
  ob1 (F_World_copyFrom z 50 1 M) fun M7 =>
  ob1 (F_Told_copyFrom 77 28 M7) fun M9 =>
  ob1 (some (up M9 0 4 (bI true))) fun M11 =>
  some (true, M11)
  else
  if ¬ (¬ ((M 0 4) = nI 0)) then
  some (false, M)
  else
  ob1 (F_World_copyFrom z 1 50 M) fun M1 =>
  ob1 (F_Told_copyFrom 28 77 M1) fun M3 =>
  ob1 (F_Rec_forget M3) fun M5 =>
  some (true, M5)
theorem s_Rec_image {taken_ : Bool} {M : mM} {r : Bool} {M' : mM} (h : F_Rec_image z taken_ M = some (r, M')) (hq : Q (some (.int (bI r))) (lay M')) : Sp X (d + 4) f_Rec_image [.ref 0, .int (bI taken_)] (lay M) Q := by
  refine Sp_of (by decide) rfl (Nat.le_of_ble_eq_true rfl) ?_
  refine wp_iload_n d_Rec_image_0 rfl rfl ?_
  refine wc_eq 33 d_Rec_image_1 rfl (fun h1 => ?_) (fun h1 => ?_)
  · replace h := inn h h1
    refine wp_aload_n d_Rec_image_33 rfl rfl ?_
    refine wl_getI d_Rec_image_34 lf_Rec_29 sh_0 rfl rfl ?_
    refine wz_ne 42 d_Rec_image_37 rfl (fun h37 => ?_) (fun h37 => ?_)
    · replace h := inn h (fun z => z h37)
      refine wp_aload_n d_Rec_image_42 rfl rfl ?_
      refine wl_getR d_Rec_image_43 lf_Rec_12 sh_0 rfl ?_
      refine wp_aload_n d_Rec_image_46 rfl rfl ?_
      refine wl_getR d_Rec_image_47 lf_Rec_23 sh_0 rfl ?_
      obtain ⟨M1, e2, h⟩ := ob1_some h
      refine wl_callV1 d_Rec_image_50 lc_World_copyFrom lv_Rec_209 rfl (shW0 isW_1) rfl rfl ⟨rfl, rfl⟩ ⟨by decide, by decide⟩ ?_
      refine s_World_copyFrom (d := d + 1) isW_1 isW_50 e2 ?_
      refine wp_aload_n d_Rec_image_53 rfl rfl ?_
      refine wl_getR d_Rec_image_54 lf_Rec_19 sh_0 rfl ?_
      refine wp_aload_n d_Rec_image_57 rfl rfl ?_
      refine wl_getR d_Rec_image_58 lf_Rec_26 sh_0 rfl ?_
      obtain ⟨M3, e4, h⟩ := ob1_some h
      refine wl_callV1 d_Rec_image_61 lc_Told_copyFrom lv_Rec_333 rfl (shT0 isTd_28) rfl rfl ⟨rfl, rfl⟩ ⟨by decide, by decide⟩ ?_
      refine s_Told_copyFrom (d := d) isTd_28 isTd_77 e4 ?_
      refine wp_aload_n d_Rec_image_64 rfl rfl ?_
      obtain ⟨M5, e6, h⟩ := ob1_some h
      refine wl_callV0 d_Rec_image_65 lc_Rec_forget lv_Rec_78 rfl sh_0 rfl rfl ⟨rfl, rfl⟩ ⟨by decide, by decide⟩ ?_
      refine s_Rec_forget (d := d + 3) e6 ?_
      refine wp_iconst d_Rec_image_68 (v := bI true) rfl ?_
      cases h
      exact wb_iret d_Rec_image_69 rfl rfl hq
    · replace h := ip h (fun z => z h37)
      refine wp_iconst d_Rec_image_40 (v := bI false) rfl ?_
      cases h
      exact wb_iret d_Rec_image_41 rfl rfl hq
  · replace h := ip h h1
    refine wp_aload_n d_Rec_image_4 rfl rfl ?_
    refine wl_getR d_Rec_image_5 lf_Rec_23 sh_0 rfl ?_
    refine wp_aload_n d_Rec_image_8 rfl rfl ?_
    refine wl_getR d_Rec_image_9 lf_Rec_12 sh_0 rfl ?_
    obtain ⟨M7, e8, h⟩ := ob1_some h
    refine wl_callV1 d_Rec_image_12 lc_World_copyFrom lv_Rec_209 rfl (shW0 isW_50) rfl rfl ⟨rfl, rfl⟩ ⟨by decide, by decide⟩ ?_
    refine s_World_copyFrom (d := d + 1) isW_50 isW_1 e8 ?_
    refine wp_aload_n d_Rec_image_15 rfl rfl ?_
    refine wl_getR d_Rec_image_16 lf_Rec_26 sh_0 rfl ?_
    refine wp_aload_n d_Rec_image_19 rfl rfl ?_
    refine wl_getR d_Rec_image_20 lf_Rec_19 sh_0 rfl ?_
    obtain ⟨M9, e10, h⟩ := ob1_some h
    refine wl_callV1 d_Rec_image_23 lc_Told_copyFrom lv_Rec_333 rfl (shT0 isTd_77) rfl rfl ⟨rfl, rfl⟩ ⟨by decide, by decide⟩ ?_
    refine s_Told_copyFrom (d := d) isTd_77 isTd_28 e10 ?_
    refine wp_aload_n d_Rec_image_26 rfl rfl ?_
    refine wp_iconst d_Rec_image_27 (v := bI true) rfl ?_
    refine wl_put d_Rec_image_28 lp_Rec_29 sh_0 rfl (bI_fits _) ?_
    obtain ⟨M11, e12, h⟩ := ob1_some h
    refine wx_M e12 ?_
    refine wp_iconst d_Rec_image_31 (v := bI true) rfl ?_
    cases h
    exact wb_iret d_Rec_image_32 rfl rfl hq
def F_Rec_look (z : Nat) (what_ : Int32) (M : mM) : Option (Int32) :=
  if what_ = nI 0 then
  some (M 1 5)
  else
  if what_ = nI 1 then
  some (M 1 9)
  else
  if what_ = nI 2 then
  some (M 1 10)
  else
  if what_ = nI 3 then
  some (M 1 11)
  else
  if what_ = nI 4 then
  some (M 1 7)
  else
  if what_ = nI 5 then
  some (M 1 8)
  else
  if what_ = nI 6 then
  ob1 (F_Rec_sum z 3 60 M) fun v1 =>
  some (v1)
  else
  if what_ = nI 7 then
  some (M 1 12)
  else
  if what_ = nI 8 then
  some (M 6 3)
  else
  if what_ = nI 9 then
  some (M 1 6)
  else
  if what_ = nI 10 then
  some (M 30 3)
  else
  if what_ = nI 11 then
  some (M 34 3)
  else
  if what_ = nI 12 then
  some (M 36 3)
  else
  if what_ = nI 13 then
  some (M 38 3)
  else
  if what_ = nI 14 then
  some (M 0 7)
  else
  some ((-1))
theorem s_Rec_look {what_ : Int32} {M : mM} {r : Int32} (h : F_Rec_look z what_ M = some r) (hq : Q (some (.int r)) (lay M)) : Sp X (d + 1) f_Rec_look [.ref 0, .int what_] (lay M) Q := by
  refine Sp_of (by decide) rfl (Nat.le_of_ble_eq_true rfl) ?_
  refine wp_iload_n d_Rec_look_0 rfl rfl ?_
  by_cases h1_0 : what_ = nI 0
  · replace h := ip h h1_0
    refine wt_in 76 (k := 0) (off := 75) (by decide) h1_0 d_Rec_look_1 (by decide) (by decide) (by decide) (by decide) ?_
    refine wp_aload_n d_Rec_look_76 rfl rfl ?_
    refine wl_getR d_Rec_look_77 lf_Rec_12 sh_0 rfl ?_
    refine wl_getI d_Rec_look_80 lf_Rec_213 (shW0 isW_1) rfl rfl ?_
    cases h
    exact wp_iret d_Rec_look_83 rfl rfl rfl hq
  · replace h := inn h h1_0
    by_cases h1_1 : what_ = nI 1
    · replace h := ip h h1_1
      refine wt_in 84 (k := 1) (off := 83) (by decide) h1_1 d_Rec_look_1 (by decide) (by decide) (by decide) (by decide) ?_
      refine wp_aload_n d_Rec_look_84 rfl rfl ?_
      refine wl_getR d_Rec_look_85 lf_Rec_12 sh_0 rfl ?_
      refine wl_getI d_Rec_look_88 lf_Rec_336 (shW0 isW_1) rfl rfl ?_
      cases h
      exact wp_iret d_Rec_look_91 rfl rfl rfl hq
    · replace h := inn h h1_1
      by_cases h1_2 : what_ = nI 2
      · replace h := ip h h1_2
        refine wt_in 92 (k := 2) (off := 91) (by decide) h1_2 d_Rec_look_1 (by decide) (by decide) (by decide) (by decide) ?_
        refine wp_aload_n d_Rec_look_92 rfl rfl ?_
        refine wl_getR d_Rec_look_93 lf_Rec_12 sh_0 rfl ?_
        refine wl_getI d_Rec_look_96 lf_Rec_143 (shW0 isW_1) rfl rfl ?_
        cases h
        exact wp_iret d_Rec_look_99 rfl rfl rfl hq
      · replace h := inn h h1_2
        by_cases h1_3 : what_ = nI 3
        · replace h := ip h h1_3
          refine wt_in 100 (k := 3) (off := 99) (by decide) h1_3 d_Rec_look_1 (by decide) (by decide) (by decide) (by decide) ?_
          refine wp_aload_n d_Rec_look_100 rfl rfl ?_
          refine wl_getR d_Rec_look_101 lf_Rec_12 sh_0 rfl ?_
          refine wl_getI d_Rec_look_104 lf_Rec_339 (shW0 isW_1) rfl rfl ?_
          cases h
          exact wp_iret d_Rec_look_107 rfl rfl rfl hq
        · replace h := inn h h1_3
          by_cases h1_4 : what_ = nI 4
          · replace h := ip h h1_4
            refine wt_in 108 (k := 4) (off := 107) (by decide) h1_4 d_Rec_look_1 (by decide) (by decide) (by decide) (by decide) ?_
            refine wp_aload_n d_Rec_look_108 rfl rfl ?_
            refine wl_getR d_Rec_look_109 lf_Rec_12 sh_0 rfl ?_
            refine wl_getI d_Rec_look_112 lf_Rec_104 (shW0 isW_1) rfl rfl ?_
            cases h
            exact wp_iret d_Rec_look_115 rfl rfl rfl hq
          · replace h := inn h h1_4
            by_cases h1_5 : what_ = nI 5
            · replace h := ip h h1_5
              refine wt_in 116 (k := 5) (off := 115) (by decide) h1_5 d_Rec_look_1 (by decide) (by decide) (by decide) (by decide) ?_
              refine wp_aload_n d_Rec_look_116 rfl rfl ?_
              refine wl_getR d_Rec_look_117 lf_Rec_12 sh_0 rfl ?_
              refine wl_getI d_Rec_look_120 lf_Rec_107 (shW0 isW_1) rfl rfl ?_
              cases h
              exact wp_iret d_Rec_look_123 rfl rfl rfl hq
            · replace h := inn h h1_5
              by_cases h1_6 : what_ = nI 6
              · replace h := ip h h1_6
                refine wt_in 124 (k := 6) (off := 123) (by decide) h1_6 d_Rec_look_1 (by decide) (by decide) (by decide) (by decide) ?_
                refine wp_aload_n d_Rec_look_124 rfl rfl ?_
                refine wl_getR d_Rec_look_125 lf_Rec_12 sh_0 rfl ?_
                refine wl_getR d_Rec_look_128 lf_Rec_170 (shW0 isW_1) rfl ?_
                obtain ⟨v1, e2, h⟩ := ob1_some h
                refine wl_callS1 d_Rec_look_131 lc_Rec_sum ls_Rec_216 rfl ⟨rfl, rfl⟩ ⟨by decide, by decide⟩ ?_
                refine s_Rec_sum (d := d) (shW2 isW_1) e2 ?_
                cases h
                exact wp_iret d_Rec_look_134 rfl rfl rfl hq
              · replace h := inn h h1_6
                by_cases h1_7 : what_ = nI 7
                · replace h := ip h h1_7
                  refine wt_in 135 (k := 7) (off := 134) (by decide) h1_7 d_Rec_look_1 (by decide) (by decide) (by decide) (by decide) ?_
                  refine wp_aload_n d_Rec_look_135 rfl rfl ?_
                  refine wl_getR d_Rec_look_136 lf_Rec_12 sh_0 rfl ?_
                  refine wl_getI d_Rec_look_139 lf_Rec_140 (shW0 isW_1) rfl rfl ?_
                  cases h
                  exact wp_iret d_Rec_look_142 rfl rfl rfl hq
                · replace h := inn h h1_7
                  by_cases h1_8 : what_ = nI 8
                  · replace h := ip h h1_8
                    refine wt_in 143 (k := 8) (off := 142) (by decide) h1_8 d_Rec_look_1 (by decide) (by decide) (by decide) (by decide) ?_
                    refine wp_aload_n d_Rec_look_143 rfl rfl ?_
                    refine wl_getR d_Rec_look_144 lf_Rec_12 sh_0 rfl ?_
                    refine wl_getR d_Rec_look_147 lf_Rec_198 (shW0 isW_1) rfl ?_
                    refine wl_getI d_Rec_look_150 lf_Rec_202 (isR0 (isR_book isW_1)) rfl rfl ?_
                    cases h
                    exact wp_iret d_Rec_look_153 rfl rfl rfl hq
                  · replace h := inn h h1_8
                    by_cases h1_9 : what_ = nI 9
                    · replace h := ip h h1_9
                      refine wt_in 154 (k := 9) (off := 153) (by decide) h1_9 d_Rec_look_1 (by decide) (by decide) (by decide) (by decide) ?_
                      refine wp_aload_n d_Rec_look_154 rfl rfl ?_
                      refine wl_getR d_Rec_look_155 lf_Rec_12 sh_0 rfl ?_
                      refine wl_getI d_Rec_look_158 lf_Rec_75 (shW0 isW_1) rfl rfl ?_
                      cases h
                      exact wp_iret d_Rec_look_161 rfl rfl rfl hq
                    · replace h := inn h h1_9
                      by_cases h1_10 : what_ = nI 10
                      · replace h := ip h h1_10
                        refine wt_in 162 (k := 10) (off := 161) (by decide) h1_10 d_Rec_look_1 (by decide) (by decide) (by decide) (by decide) ?_
                        refine wp_aload_n d_Rec_look_162 rfl rfl ?_
                        refine wl_getR d_Rec_look_163 lf_Rec_19 sh_0 rfl ?_
                        refine wl_getR d_Rec_look_166 lf_Rec_185 (shT0 isTd_28) rfl ?_
                        refine wl_getR d_Rec_look_169 lf_Rec_341 (shL0 (isL_of isTd_28)) rfl ?_
                        refine wl_getI d_Rec_look_172 lf_Rec_202 (isR0 (isR_lines (isL_of isTd_28))) rfl rfl ?_
                        cases h
                        exact wp_iret d_Rec_look_175 rfl rfl rfl hq
                      · replace h := inn h h1_10
                        by_cases h1_11 : what_ = nI 11
                        · replace h := ip h h1_11
                          refine wt_in 176 (k := 11) (off := 175) (by decide) h1_11 d_Rec_look_1 (by decide) (by decide) (by decide) (by decide) ?_
                          refine wp_aload_n d_Rec_look_176 rfl rfl ?_
                          refine wl_getR d_Rec_look_177 lf_Rec_19 sh_0 rfl ?_
                          refine wl_getR d_Rec_look_180 lf_Rec_344 (shT0 isTd_28) rfl ?_
                          refine wl_getI d_Rec_look_183 lf_Rec_202 (isR0 (isR_flight isTd_28)) rfl rfl ?_
                          cases h
                          exact wp_iret d_Rec_look_186 rfl rfl rfl hq
                        · replace h := inn h h1_11
                          by_cases h1_12 : what_ = nI 12
                          · replace h := ip h h1_12
                            refine wt_in 187 (k := 12) (off := 186) (by decide) h1_12 d_Rec_look_1 (by decide) (by decide) (by decide) (by decide) ?_
                            refine wp_aload_n d_Rec_look_187 rfl rfl ?_
                            refine wl_getR d_Rec_look_188 lf_Rec_19 sh_0 rfl ?_
                            refine wl_getR d_Rec_look_191 lf_Rec_347 (shT0 isTd_28) rfl ?_
                            refine wl_getI d_Rec_look_194 lf_Rec_202 (isR0 (isR_sky isTd_28)) rfl rfl ?_
                            cases h
                            exact wp_iret d_Rec_look_197 rfl rfl rfl hq
                          · replace h := inn h h1_12
                            by_cases h1_13 : what_ = nI 13
                            · replace h := ip h h1_13
                              refine wt_in 198 (k := 13) (off := 197) (by decide) h1_13 d_Rec_look_1 (by decide) (by decide) (by decide) (by decide) ?_
                              refine wp_aload_n d_Rec_look_198 rfl rfl ?_
                              refine wl_getR d_Rec_look_199 lf_Rec_19 sh_0 rfl ?_
                              refine wl_getR d_Rec_look_202 lf_Rec_257 (shT0 isTd_28) rfl ?_
                              refine wl_getI d_Rec_look_205 lf_Rec_202 (isR0 (isR_strips isTd_28)) rfl rfl ?_
                              cases h
                              exact wp_iret d_Rec_look_208 rfl rfl rfl hq
                            · replace h := inn h h1_13
                              by_cases h1_14 : what_ = nI 14
                              · replace h := ip h h1_14
                                refine wt_in 209 (k := 14) (off := 208) (by decide) h1_14 d_Rec_look_1 (by decide) (by decide) (by decide) (by decide) ?_
                                refine wp_aload_n d_Rec_look_209 rfl rfl ?_
                                refine wl_getI d_Rec_look_210 lf_Rec_41 sh_0 rfl rfl ?_
                                cases h
                                exact wp_iret d_Rec_look_213 rfl rfl rfl hq
                              · replace h := inn h h1_14
                                refine wt_out 214 d_Rec_look_1 (by decide) (fun y4 y31 y32 y3 => ?_) rfl ?_
                                · have y33 : y4 = 0 ∨ y4 = 1 ∨ y4 = 2 ∨ y4 = 3 ∨ y4 = 4 ∨ y4 = 5 ∨ y4 = 6 ∨ y4 = 7 ∨ y4 = 8 ∨ y4 = 9 ∨ y4 = 10 ∨ y4 = 11 ∨ y4 = 12 ∨ y4 = 13 ∨ y4 = 14 := by omega
                                  rcases y33 with rfl | rfl | rfl | rfl | rfl | rfl | rfl | rfl | rfl | rfl | rfl | rfl | rfl | rfl | rfl
                                  · exact h1_0 y3
                                  · exact h1_1 y3
                                  · exact h1_2 y3
                                  · exact h1_3 y3
                                  · exact h1_4 y3
                                  · exact h1_5 y3
                                  · exact h1_6 y3
                                  · exact h1_7 y3
                                  · exact h1_8 y3
                                  · exact h1_9 y3
                                  · exact h1_10 y3
                                  · exact h1_11 y3
                                  · exact h1_12 y3
                                  · exact h1_13 y3
                                  · exact h1_14 y3
                                · refine wp_iconst d_Rec_look_214 (v := (-1)) rfl ?_
                                  cases h
                                  exact wp_iret d_Rec_look_215 rfl rfl rfl hq
end S1410
