/-! methods as functions: printed by program -/
section S1421
variable {X : mXs} {d z : Nat} {Q : Option Value → mH → Prop}
def L_Mod_goingBy_1 (z : Nat) : Nat → Int32 → Int32 → mM → Option (Int32 × mM)
  | 0, _, _, _ => none
  | n + 1, n_, t_, M =>
    ob1 (ob1 (ra M 313 270 (nI 8)) fun v86 =>
    some (decide (t_ < v86))) fun x7 =>
    if x7 = true then
    ob2 (ob2 (ob1 (ob1 (ra M 313 270 ((F_Mod_thingAt t_) + (nI 6))) fun v82 =>
    some (decide (¬ ((nI 1) < v82)))) fun x70 =>
    if x70 = true then ob2 (F_Mod_freesOf z t_ M) fun v76 M77 =>
    some (decide (¬ (((nI 2) * v76) < (nI 1000))), M77)
    else some (false, M)) fun x50 M52 =>
    if x50 = true then
    some (n_ + (nI 1), M52)
    else
    some (n_, M52)) fun n_47 M48 =>
    L_Mod_goingBy_1 z n n_47 (t_ + nI 1) M48
    else
    some (n_, M)
def F_Mod_goingBy (z : Nat) (v_ : Int32) (M : mM) : Option (Int32 × mM) :=
  ob1 (ra M 313 270 (nI 3)) fun v2 =>
  ob1 (wa M 313 270 (nI 3) v_) fun M4 =>
  ob2 (L_Mod_goingBy_1 z z (nI 0) (nI 0) M4) fun n_87 M88 =>
  ob1 (wa M88 313 270 (nI 3) v2) fun M90 =>
  some (n_87, M90)
theorem l_Mod_goingBy_1  {q1 : Value} {q2 : Value} {n_r : Int32} {N' : mM} (K : ∀ u4 : Value, wp X (d + 5) f_Mod_goingBy (0, 0) 73 [.ref 312, q1, q2, .int n_r, u4] [] (lay N') Q) : ∀ (n : Nat) (n_ : Int32) (t_ : Int32) (M : mM), L_Mod_goingBy_1 z n n_ t_ M = some (n_r, N') → wp X (d + 5) f_Mod_goingBy (0, 0) 19 [.ref 312, q1, q2, .int n_, .int t_] [] (lay M) Q := by
  intro n
  induction n with
  | zero => intro n_ t_ M h; exact nn h
  | succ n ih =>
    intro n_ t_ M h
    obtain ⟨x7, e8, h⟩ := ob1_some h
    have k11 : x7 = true → wp X (d + 5) f_Mod_goingBy (0, 0) 31 [.ref 312, q1, q2, .int n_, .int t_] [] (lay M) Q := by
      intro x12
      replace h := ip h x12
      obtain ⟨n_47, M48, e49, h⟩ := ob2_some h
      have k46 : wp X (d + 5) f_Mod_goingBy (0, 0) 67 [.ref 312, q1, q2, .int n_47, .int t_] [] (lay M48) Q := by
        refine wp_iinc d_Mod_goingBy_67 (v := t_ + nI 1) rfl rfl ?_
        refine wp_goto 19 d_Mod_goingBy_70 rfl ?_
        exact ih _ _ _ h
      obtain ⟨x50, M52, e51, e49⟩ := ob2_some e49
      have k66 : x50 = true → wp X (d + 5) f_Mod_goingBy (0, 0) 63 [.ref 312, q1, q2, .int n_, .int t_] [] (lay M52) Q := by
        intro x67
        replace e49 := ip e49 x67
        refine wp_iload_n d_Mod_goingBy_63 rfl rfl ?_
        refine wp_iconst d_Mod_goingBy_64 (v := nI 1) rfl ?_
        refine wp_iadd d_Mod_goingBy_65 ?_
        refine wp_istore_n d_Mod_goingBy_66 rfl (by decide) ?_
        cases e49
        exact k46
      have k68 : ¬ x50 = true → wp X (d + 5) f_Mod_goingBy (0, 0) 67 [.ref 312, q1, q2, .int n_, .int t_] [] (lay M52) Q := by
        intro x69
        replace e49 := inn e49 x69
        cases e49
        exact k46
      obtain ⟨x70, e71, e51⟩ := ob1_some e51
      have k74 : x70 = true → wp X (d + 5) f_Mod_goingBy (0, 0) 49 [.ref 312, q1, q2, .int n_, .int t_] [] (lay M) Q := by
        intro x75
        replace e51 := ip e51 x75
        refine wp_iconst d_Mod_goingBy_49 (v := nI 2) rfl ?_
        refine wp_aload_n d_Mod_goingBy_50 rfl rfl ?_
        refine wp_iload d_Mod_goingBy_51 rfl ?_
        obtain ⟨v76, M77, e78, e51⟩ := ob2_some e51
        refine wl_callV1 d_Mod_goingBy_53 lc_Mod_freesOf lv_Mod_351 rfl sh_312 rfl rfl ⟨rfl, rfl⟩ ⟨by decide, by decide⟩ ?_
        refine s_Mod_freesOf (d := d) e78 ?_
        refine wp_imul d_Mod_goingBy_56 ?_
        refine wp_sipush d_Mod_goingBy_57 (v := nI 1000) rfl ?_
        refine wq_icmp_lt 67 d_Mod_goingBy_60 rfl (fun h60 => ?_) (fun h60 => ?_)
        · cases e51
          exact k68 (fun z => (fun z => z h60) (of_decide_eq_true z))
        · cases e51
          exact k66 (decide_eq_true h60)
      have k79 : ¬ x70 = true → wp X (d + 5) f_Mod_goingBy (0, 0) 67 [.ref 312, q1, q2, .int n_, .int t_] [] (lay M) Q := by
        intro x80
        replace e51 := inn e51 x80
        cases e51
        exact k68 (fun z => Bool.noConfusion z)
      refine wp_aload_n d_Mod_goingBy_31 rfl rfl ?_
      refine wl_getR d_Mod_goingBy_32 lf_Mod_7 sh_312 rfl ?_
      refine wp_aload_n d_Mod_goingBy_35 rfl rfl ?_
      refine wp_iload d_Mod_goingBy_36 rfl ?_
      refine wl_callV1 d_Mod_goingBy_38 lc_Mod_thingAt lv_Mod_124 rfl sh_312 rfl rfl ⟨rfl, rfl⟩ ⟨by decide, by decide⟩ ?_
      refine s_Mod_thingAt (d := d + 4) rfl ?_
      refine wp_bipush d_Mod_goingBy_41 (v := nI 6) rfl ?_
      refine wp_iadd d_Mod_goingBy_43 ?_
      obtain ⟨v82, e81, e71⟩ := ob1_some e71
      refine wa_ald d_Mod_goingBy_44 sh_313 e81 ?_
      refine wp_iconst d_Mod_goingBy_45 (v := nI 1) rfl ?_
      refine wq_icmp_gt 67 d_Mod_goingBy_46 rfl (fun h46 => ?_) (fun h46 => ?_)
      · cases e71
        exact k79 (fun z => (fun z => z h46) (of_decide_eq_true z))
      · cases e71
        exact k74 (decide_eq_true h46)
    have k83 : ¬ x7 = true → wp X (d + 5) f_Mod_goingBy (0, 0) 73 [.ref 312, q1, q2, .int n_, .int t_] [] (lay M) Q := by
      intro x84
      replace h := inn h x84
      cases h
      exact K _
    refine wp_iload d_Mod_goingBy_19 rfl ?_
    refine wp_aload_n d_Mod_goingBy_21 rfl rfl ?_
    refine wl_getR d_Mod_goingBy_22 lf_Mod_7 sh_312 rfl ?_
    refine wp_bipush d_Mod_goingBy_25 (v := nI 8) rfl ?_
    obtain ⟨v86, e85, e8⟩ := ob1_some e8
    refine wa_ald d_Mod_goingBy_27 sh_313 e85 ?_
    refine wq_icmp_ge 73 d_Mod_goingBy_28 rfl (fun h28 => ?_) (fun h28 => ?_)
    · cases e8
      exact k83 (fun z => h28 (of_decide_eq_true z))
    · cases e8
      exact k11 (decide_eq_true h28)
theorem s_Mod_goingBy {v_ : Int32} {M : mM} {r : Int32} {M' : mM} (h : F_Mod_goingBy z v_ M = some (r, M')) (hq : Q (some (.int r)) (lay M')) : Sp X (d + 5) f_Mod_goingBy [.ref 312, .int v_] (lay M) Q := by
  refine Sp_of (by decide) rfl (Nat.le_of_ble_eq_true rfl) ?_
  refine wp_aload_n d_Mod_goingBy_0 rfl rfl ?_
  refine wl_getR d_Mod_goingBy_1 lf_Mod_7 sh_312 rfl ?_
  refine wp_iconst d_Mod_goingBy_4 (v := nI 3) rfl ?_
  obtain ⟨v2, e1, h⟩ := ob1_some h
  refine wa_ald d_Mod_goingBy_5 sh_313 e1 ?_
  refine wp_istore_n d_Mod_goingBy_6 rfl (by decide) ?_
  refine wp_aload_n d_Mod_goingBy_7 rfl rfl ?_
  refine wl_getR d_Mod_goingBy_8 lf_Mod_7 sh_312 rfl ?_
  refine wp_iconst d_Mod_goingBy_11 (v := nI 3) rfl ?_
  refine wp_iload_n d_Mod_goingBy_12 rfl rfl ?_
  obtain ⟨M4, e3, h⟩ := ob1_some h
  refine wa_ast d_Mod_goingBy_13 sh_313 e3 ?_
  refine wp_iconst d_Mod_goingBy_14 (v := nI 0) rfl ?_
  refine wp_istore_n d_Mod_goingBy_15 rfl (by decide) ?_
  refine wp_iconst d_Mod_goingBy_16 (v := nI 0) rfl ?_
  refine wp_istore d_Mod_goingBy_17 (by decide) ?_
  obtain ⟨n_87, M88, e91, h⟩ := ob2_some h
  refine l_Mod_goingBy_1 ?_ _ _ _ _ e91
  intro u4
  refine wp_aload_n d_Mod_goingBy_73 rfl rfl ?_
  refine wl_getR d_Mod_goingBy_74 lf_Mod_7 sh_312 rfl ?_
  refine wp_iconst d_Mod_goingBy_77 (v := nI 3) rfl ?_
  refine wp_iload_n d_Mod_goingBy_78 rfl rfl ?_
  obtain ⟨M90, e89, h⟩ := ob1_some h
  refine wa_ast d_Mod_goingBy_79 sh_313 e89 ?_
  refine wp_iload_n d_Mod_goingBy_80 rfl rfl ?_
  cases h
  exact wp_iret d_Mod_goingBy_81 rfl rfl rfl hq
def L_Mod_go_1 (z : Nat) (kt : mM → Option (Int32 × mM)) : Nat → Int32 → mM → Option (Int32 × mM)
  | 0, _, _ => none
  | n + 1, w_, M =>
    if w_ < (nI 10) then
    ob2 (ob2 (F_Mod_goingBy z w_ M) fun v11 M12 =>
    some (decide ((nI 0) < v11), M12)) fun x1 M3 =>
    if x1 = true then
    some (w_, M3)
    else
    L_Mod_go_1 z kt n (w_ + nI 1) M3
    else
    kt M
def F_Mod_go (z : Nat) (v_ : Int32) (M : mM) : Option (Int32 × mM) :=
  if ¬ ((F_Mod_isIn v_ (-1) (nI 9)) = true) then
  some ((-1), M)
  else
  if ¬ (v_ = (-1)) then
  ob2 (F_Mod_goingBy z v_ M) fun v15 M16 =>
  some (v15, M16)
  else
  L_Mod_go_1 z (fun (M14 : mM) =>
  some ((-1), M14)) z (nI 0) M
theorem l_Mod_go_1 {kt : mM → Option (Int32 × mM)}  {q1 : Value} {r : Int32} {M' : mM} (hq : Q (some (.int r)) (lay M')) (K : ∀ (N1 : mM) (u2 : Value), kt  N1 = some (r, M') → wp X (d + 6) f_Mod_go (0, 0) 53 [.ref 312, q1, u2] [] (lay N1) Q) : ∀ (n : Nat) (w_ : Int32) (M : mM), L_Mod_go_1 z kt n w_ M = some (r, M') → wp X (d + 6) f_Mod_go (0, 0) 31 [.ref 312, q1, .int w_] [] (lay M) Q := by
  intro n
  induction n with
  | zero => intro w_ M h; exact nn h
  | succ n ih =>
    intro w_ M h
    refine wp_iload_n d_Mod_go_31 rfl rfl ?_
    refine wp_bipush d_Mod_go_32 (v := nI 10) rfl ?_
    refine wq_icmp_ge 53 d_Mod_go_34 rfl (fun h34 => ?_) (fun h34 => ?_)
    · replace h := inn h h34
      exact K _ _ h
    · replace h := ip h h34
      obtain ⟨x1, M3, e2, h⟩ := ob2_some h
      have k7 : x1 = true → wp X (d + 6) f_Mod_go (0, 0) 45 [.ref 312, q1, .int w_] [] (lay M3) Q := by
        intro x8
        replace h := ip h x8
        refine wp_iload_n d_Mod_go_45 rfl rfl ?_
        cases h
        exact wp_iret d_Mod_go_46 rfl rfl rfl hq
      have k9 : ¬ x1 = true → wp X (d + 6) f_Mod_go (0, 0) 47 [.ref 312, q1, .int w_] [] (lay M3) Q := by
        intro x10
        replace h := inn h x10
        refine wp_iinc d_Mod_go_47 (v := w_ + nI 1) rfl rfl ?_
        refine wp_goto 31 d_Mod_go_50 rfl ?_
        exact ih _ _ h
      refine wp_aload_n d_Mod_go_37 rfl rfl ?_
      refine wp_iload_n d_Mod_go_38 rfl rfl ?_
      obtain ⟨v11, M12, e13, e2⟩ := ob2_some e2
      refine wl_callV1 d_Mod_go_39 lc_Mod_goingBy lv_Mod_463 rfl sh_312 rfl rfl ⟨rfl, rfl⟩ ⟨by decide, by decide⟩ ?_
      refine s_Mod_goingBy (d := d) e13 ?_
      refine wz_le 47 d_Mod_go_42 rfl (fun h42 => ?_) (fun h42 => ?_)
      · cases e2
        exact k9 (fun z => h42 (of_decide_eq_true z))
      · cases e2
        exact k7 (decide_eq_true h42)
theorem s_Mod_go {v_ : Int32} {M : mM} {r : Int32} {M' : mM} (h : F_Mod_go z v_ M = some (r, M')) (hq : Q (some (.int r)) (lay M')) : Sp X (d + 6) f_Mod_go [.ref 312, .int v_] (lay M) Q := by
  refine Sp_of (by decide) rfl (Nat.le_of_ble_eq_true rfl) ?_
  refine wp_aload_n d_Mod_go_0 rfl rfl ?_
  refine wp_iconst d_Mod_go_1 (v := nI 0) rfl ?_
  refine wl_putC d_Mod_go_2 lp_Mod_107 sh_312 rfl ⟨rfl, rfl⟩ ?_
  refine wp_aload_n d_Mod_go_5 rfl rfl ?_
  refine wp_iload_n d_Mod_go_6 rfl rfl ?_
  refine wp_iconst d_Mod_go_7 (v := (-1)) rfl ?_
  refine wp_bipush d_Mod_go_8 (v := nI 9) rfl ?_
  refine wl_callV3 d_Mod_go_10 lc_Mod_isIn lv_Mod_135 rfl sh_312 rfl rfl ⟨rfl, rfl⟩ ⟨by decide, by decide⟩ ?_
  refine s_Mod_isIn (d := d + 5) rfl ?_
  refine wc_ne 18 d_Mod_go_13 rfl (fun h13 => ?_) (fun h13 => ?_)
  · replace h := inn h (fun z => z h13)
    refine wp_iload_n d_Mod_go_18 rfl rfl ?_
    refine wp_iconst d_Mod_go_19 (v := (-1)) rfl ?_
    refine wq_icmp_eq 29 d_Mod_go_20 rfl (fun h20 => ?_) (fun h20 => ?_)
    · replace h := inn h (fun z => z h20)
      refine wp_iconst d_Mod_go_29 (v := nI 0) rfl ?_
      refine wp_istore_n d_Mod_go_30 rfl (by decide) ?_
      refine l_Mod_go_1 hq ?_ _ _ _ h
      intro M14 u2 h
      refine wp_iconst d_Mod_go_53 (v := (-1)) rfl ?_
      cases h
      exact wp_iret d_Mod_go_54 rfl rfl rfl hq
    · replace h := ip h h20
      refine wp_aload_n d_Mod_go_23 rfl rfl ?_
      refine wp_iload_n d_Mod_go_24 rfl rfl ?_
      obtain ⟨v15, M16, e17, h⟩ := ob2_some h
      refine wl_callV1 d_Mod_go_25 lc_Mod_goingBy lv_Mod_463 rfl sh_312 rfl rfl ⟨rfl, rfl⟩ ⟨by decide, by decide⟩ ?_
      refine s_Mod_goingBy (d := d) e17 ?_
      cases h
      exact wp_iret d_Mod_go_28 rfl rfl rfl hq
  · replace h := ip h h13
    refine wp_iconst d_Mod_go_16 (v := (-1)) rfl ?_
    cases h
    exact wp_iret d_Mod_go_17 rfl rfl rfl hq
def L_Mod_squires_1 (z : Nat) : Nat → Int32 → mM → Option (mM)
  | 0, _, _ => none
  | n + 1, k_, M =>
    if k_ < (nI 3801) then
    ob1 (wa M 341 3801 k_ (nI 0)) fun M2 =>
    L_Mod_squires_1 z n (k_ + nI 1) M2
    else
    some (M)
def L_Mod_squires_4 (z : Nat) (size_ : Int32) (n_ : Int32) : Nat → Int32 → mM → Option (mM)
  | 0, _, _ => none
  | n + 1, v_, M =>
    if v_ < (nI 181) then
    ob1 (ob1 (ob1 (ra M 341 3801 ((((nI 181) * (n_ - (nI 1))) + v_) - size_)) fun v95 =>
    some (decide (v95 = (nI 1)))) fun x84 =>
    if x84 = true then
    ob1 (wa M 341 3801 (((nI 181) * n_) + v_) (nI 1)) fun M91 =>
    some (M91)
    else
    some (M)) fun M82 =>
    L_Mod_squires_4 z size_ n_ n (v_ + nI 1) M82
    else
    some (M)
def L_Mod_squires_3 (z : Nat) (size_ : Int32) : Nat → Int32 → mM → Option (mM)
  | 0, _, _ => none
  | n + 1, n_, M =>
    if (nI 1) < n_ then
    ob1 (L_Mod_squires_4 z size_ n_ z size_ M) fun M96 =>
    L_Mod_squires_3 z size_ n (n_ + (-1)) M96
    else
    some (M)
def L_Mod_squires_2 (z : Nat) : Nat → Int32 → Int32 → Int32 → mM → Option (Int32 × Int32 × mM)
  | 0, _, _, _, _ => none
  | n + 1, all_, first_, i_, M =>
    if i_ < (nI 60) then
    ob1 (ob1 (ob1 (ob1 (F_Mod_isTaken z i_ M) fun v118 =>
    some (v118)) fun x116 => some (!x116)) fun x102 =>
    if x102 = true then some (true)
    else ob1 (F_Mod_stuckAt z i_ M) fun v112 =>
    ob1 (ra M 313 270 ((F_Mod_thingAt v112) + (nI 1))) fun v115 =>
    some (decide (¬ (v115 = (nI 4))))) fun x4 =>
    if x4 = true then
    L_Mod_squires_2 z n all_ first_ (i_ + nI 1) M
    else
    ob1 (F_Mod_stuckAt z i_ M) fun v28 =>
    ob1 (ra M 313 270 ((F_Mod_thingAt v28) + (nI 2))) fun v31 =>
    ob2 (if all_ = (nI 0) then
    ob1 (wa M 341 3801 ((nI 181) + v31) (nI 1)) fun M101 =>
    some (v31, M101)
    else
    ob1 (L_Mod_squires_3 z v31 z (nI 20) M) fun M98 =>
    some (first_, M98)) fun first_66 M67 =>
    L_Mod_squires_2 z n (all_ + v31) first_66 (i_ + nI 1) M67
    else
    some (all_, first_, M)
def L_Mod_squires_6 (z : Nat) (all_ : Int32) (n_ : Int32) (M : mM) : Nat → Int32 → Int32 → Int32 → Option (Int32 × Int32)
  | 0, _, _, _ => none
  | n + 1, least_, few_, v_ =>
    if v_ < (nI 181) then
    ob1 (ob1 (ob1 (ra M 341 3801 (((nI 181) * n_) + v_)) fun v151 =>
    some (decide (v151 = (nI 0)))) fun x142 =>
    if x142 = true then some (true)
    else some (decide (¬ ((F_Mod_apart v_ (all_ - v_)) < least_)))) fun x126 =>
    if x126 = true then
    L_Mod_squires_6 z all_ n_ M n least_ few_ (v_ + nI 1)
    else
    L_Mod_squires_6 z all_ n_ M n (F_Mod_apart v_ (all_ - v_)) n_ (v_ + nI 1)
    else
    some (least_, few_)
def L_Mod_squires_5 (z : Nat) (all_ : Int32) (M : mM) : Nat → Int32 → Int32 → Int32 → Option (Int32 × Int32)
  | 0, _, _, _ => none
  | n + 1, least_, few_, n_ =>
    if n_ < (nI 21) then
    ob2 (L_Mod_squires_6 z all_ n_ M z least_ few_ (nI 0)) fun least_152 few_153 =>
    L_Mod_squires_5 z all_ M n least_152 few_153 (n_ + nI 1)
    else
    some (least_, few_)
def F_Mod_squires (z : Nat) (what_ : Int32) (M : mM) : Option (Int32 × mM) :=
  if ¬ ((F_Mod_isIn what_ (nI 0) (nI 1)) = true) then
  some ((-1), M)
  else
  ob1 (L_Mod_squires_1 z z (nI 0) M) fun M3 =>
  ob3 (L_Mod_squires_2 z z (nI 0) (nI 0) (nI 0) M3) fun all_120 first_121 M122 =>
  ob1 (some ((if first_121 = (nI 0) then nI 0 else nI 100000000))) fun v124 =>
  ob2 (L_Mod_squires_5 z all_120 M122 z v124 (nI 0) (nI 1)) fun least_155 few_156 =>
  some ((if what_ = (nI 0) then least_155 else few_156), M122)
theorem l_Mod_squires_1  {q1 : Value} {N' : mM} (K : ∀ u2 u3 u4 u5 u6 u7 : Value, wp X (d + 3) f_Mod_squires (0, 0) 39 [.ref 312, q1, u2, u3, u4, u5, u6, u7] [] (lay N') Q) : ∀ (n : Nat) (k_ : Int32) (M : mM) (u3 u4 u5 u6 u7 : Value), L_Mod_squires_1 z n k_ M = some (N') → wp X (d + 3) f_Mod_squires (0, 0) 19 [.ref 312, q1, .int k_, u3, u4, u5, u6, u7] [] (lay M) Q := by
  intro n
  induction n with
  | zero => intro k_ M u3 u4 u5 u6 u7 h; exact nn h
  | succ n ih =>
    intro k_ M u3 u4 u5 u6 u7 h
    refine wp_iload_n d_Mod_squires_19 rfl rfl ?_
    refine wp_sipush d_Mod_squires_20 (v := nI 3801) rfl ?_
    refine wq_icmp_ge 39 d_Mod_squires_23 rfl (fun h23 => ?_) (fun h23 => ?_)
    · replace h := inn h h23
      cases h
      exact K _ _ _ _ _ _
    · replace h := ip h h23
      refine wp_aload_n d_Mod_squires_26 rfl rfl ?_
      refine wl_getR d_Mod_squires_27 lf_Mod_98 sh_312 rfl ?_
      refine wp_iload_n d_Mod_squires_30 rfl rfl ?_
      refine wp_iconst d_Mod_squires_31 (v := nI 0) rfl ?_
      obtain ⟨M2, e1, h⟩ := ob1_some h
      refine wa_ast d_Mod_squires_32 sh_341 e1 ?_
      refine wp_iinc d_Mod_squires_33 (v := k_ + nI 1) rfl rfl ?_
      refine wp_goto 19 d_Mod_squires_36 rfl ?_
      exact ih _ _ _ _ _ _ _ h
theorem l_Mod_squires_4 {size_ : Int32} {n_ : Int32}  {q1 : Value} {q2 : Value} {q3 : Value} {q4 : Value} {N' : mM} (K : ∀ u7 : Value, wp X (d + 3) f_Mod_squires (0, 0) 193 [.ref 312, q1, q2, q3, q4, .int size_, .int n_, u7] [] (lay N') Q) : ∀ (n : Nat) (v_ : Int32) (M : mM), L_Mod_squires_4 z size_ n_ n v_ M = some (N') → wp X (d + 3) f_Mod_squires (0, 0) 141 [.ref 312, q1, q2, q3, q4, .int size_, .int n_, .int v_] [] (lay M) Q := by
  intro n
  induction n with
  | zero => intro v_ M h; exact nn h
  | succ n ih =>
    intro v_ M h
    refine wp_iload d_Mod_squires_141 rfl ?_
    refine wp_sipush d_Mod_squires_143 (v := nI 181) rfl ?_
    refine wq_icmp_ge 193 d_Mod_squires_146 rfl (fun h146 => ?_) (fun h146 => ?_)
    · replace h := inn h h146
      cases h
      exact K _
    · replace h := ip h h146
      obtain ⟨M82, e83, h⟩ := ob1_some h
      have k81 : wp X (d + 3) f_Mod_squires (0, 0) 187 [.ref 312, q1, q2, q3, q4, .int size_, .int n_, .int v_] [] (lay M82) Q := by
        refine wp_iinc d_Mod_squires_187 (v := v_ + nI 1) rfl rfl ?_
        refine wp_goto 141 d_Mod_squires_190 rfl ?_
        exact ih _ _ h
      obtain ⟨x84, e85, e83⟩ := ob1_some e83
      have k88 : x84 = true → wp X (d + 3) f_Mod_squires (0, 0) 172 [.ref 312, q1, q2, q3, q4, .int size_, .int n_, .int v_] [] (lay M) Q := by
        intro x89
        replace e83 := ip e83 x89
        refine wp_aload_n d_Mod_squires_172 rfl rfl ?_
        refine wl_getR d_Mod_squires_173 lf_Mod_98 sh_312 rfl ?_
        refine wp_sipush d_Mod_squires_176 (v := nI 181) rfl ?_
        refine wp_iload d_Mod_squires_179 rfl ?_
        refine wp_imul d_Mod_squires_181 ?_
        refine wp_iload d_Mod_squires_182 rfl ?_
        refine wp_iadd d_Mod_squires_184 ?_
        refine wp_iconst d_Mod_squires_185 (v := nI 1) rfl ?_
        obtain ⟨M91, e90, e83⟩ := ob1_some e83
        refine wa_ast d_Mod_squires_186 sh_341 e90 ?_
        cases e83
        exact k81
      have k92 : ¬ x84 = true → wp X (d + 3) f_Mod_squires (0, 0) 187 [.ref 312, q1, q2, q3, q4, .int size_, .int n_, .int v_] [] (lay M) Q := by
        intro x93
        replace e83 := inn e83 x93
        cases e83
        exact k81
      refine wp_aload_n d_Mod_squires_149 rfl rfl ?_
      refine wl_getR d_Mod_squires_150 lf_Mod_98 sh_312 rfl ?_
      refine wp_sipush d_Mod_squires_153 (v := nI 181) rfl ?_
      refine wp_iload d_Mod_squires_156 rfl ?_
      refine wp_iconst d_Mod_squires_158 (v := nI 1) rfl ?_
      refine wp_isub d_Mod_squires_159 ?_
      refine wp_imul d_Mod_squires_160 ?_
      refine wp_iload d_Mod_squires_161 rfl ?_
      refine wp_iadd d_Mod_squires_163 ?_
      refine wp_iload d_Mod_squires_164 rfl ?_
      refine wp_isub d_Mod_squires_166 ?_
      obtain ⟨v95, e94, e85⟩ := ob1_some e85
      refine wa_ald d_Mod_squires_167 sh_341 e94 ?_
      refine wp_iconst d_Mod_squires_168 (v := nI 1) rfl ?_
      refine wq_icmp_ne 187 d_Mod_squires_169 rfl (fun h169 => ?_) (fun h169 => ?_)
      · cases e85
        exact k92 (fun z => h169 (of_decide_eq_true z))
      · cases e85
        exact k88 (decide_eq_true h169)
theorem l_Mod_squires_3 {size_ : Int32}  {q1 : Value} {q2 : Value} {q3 : Value} {q4 : Value} {N' : mM} (K : ∀ u6 u7 : Value, wp X (d + 3) f_Mod_squires (0, 0) 199 [.ref 312, q1, q2, q3, q4, .int size_, u6, u7] [] (lay N') Q) : ∀ (n : Nat) (n_ : Int32) (M : mM) (u7 : Value), L_Mod_squires_3 z size_ n n_ M = some (N') → wp X (d + 3) f_Mod_squires (0, 0) 131 [.ref 312, q1, q2, q3, q4, .int size_, .int n_, u7] [] (lay M) Q := by
  intro n
  induction n with
  | zero => intro n_ M u7 h; exact nn h
  | succ n ih =>
    intro n_ M u7 h
    refine wp_iload d_Mod_squires_131 rfl ?_
    refine wp_iconst d_Mod_squires_133 (v := nI 1) rfl ?_
    refine wq_icmp_le 199 d_Mod_squires_134 rfl (fun h134 => ?_) (fun h134 => ?_)
    · replace h := inn h h134
      cases h
      exact K _ _
    · replace h := ip h h134
      refine wp_iload d_Mod_squires_137 rfl ?_
      refine wp_istore d_Mod_squires_139 (by decide) ?_
      obtain ⟨M96, e97, h⟩ := ob1_some h
      refine l_Mod_squires_4 ?_ _ _ _ e97
      intro u7
      refine wp_iinc d_Mod_squires_193 (v := n_ + (-1)) rfl rfl ?_
      refine wp_goto 131 d_Mod_squires_196 rfl ?_
      exact ih _ _ _ h
theorem l_Mod_squires_2  {q1 : Value} {all_r : Int32} {first_r : Int32} {N' : mM} (K : ∀ u4 u5 u6 u7 : Value, wp X (d + 3) f_Mod_squires (0, 0) 210 [.ref 312, q1, .int all_r, .int first_r, u4, u5, u6, u7] [] (lay N') Q) : ∀ (n : Nat) (all_ : Int32) (first_ : Int32) (i_ : Int32) (M : mM) (u5 u6 u7 : Value), L_Mod_squires_2 z n all_ first_ i_ M = some (all_r, first_r, N') → wp X (d + 3) f_Mod_squires (0, 0) 46 [.ref 312, q1, .int all_, .int first_, .int i_, u5, u6, u7] [] (lay M) Q := by
  intro n
  induction n with
  | zero => intro all_ first_ i_ M u5 u6 u7 h; exact nn h
  | succ n ih =>
    intro all_ first_ i_ M u5 u6 u7 h
    refine wp_iload d_Mod_squires_46 rfl ?_
    refine wp_bipush d_Mod_squires_48 (v := nI 60) rfl ?_
    refine wq_icmp_ge 210 d_Mod_squires_50 rfl (fun h50 => ?_) (fun h50 => ?_)
    · replace h := inn h h50
      cases h
      exact K _ _ _ _
    · replace h := ip h h50
      obtain ⟨x4, e5, h⟩ := ob1_some h
      have k24 : ∀ u5 u6 u7 : Value, x4 = true → wp X (d + 3) f_Mod_squires (0, 0) 204 [.ref 312, q1, .int all_, .int first_, .int i_, u5, u6, u7] [] (lay M) Q := by
        intro u5 u6 u7 x25
        replace h := ip h x25
        refine wp_iinc d_Mod_squires_204 (v := i_ + nI 1) rfl rfl ?_
        refine wp_goto 46 d_Mod_squires_207 rfl ?_
        exact ih _ _ _ _ _ _ _ h
      have k26 : ∀ u5 u6 u7 : Value, ¬ x4 = true → wp X (d + 3) f_Mod_squires (0, 0) 86 [.ref 312, q1, .int all_, .int first_, .int i_, u5, u6, u7] [] (lay M) Q := by
        intro u5 u6 u7 x27
        replace h := inn h x27
        refine wp_aload_n d_Mod_squires_86 rfl rfl ?_
        refine wl_getR d_Mod_squires_87 lf_Mod_7 sh_312 rfl ?_
        refine wp_aload_n d_Mod_squires_90 rfl rfl ?_
        refine wp_aload_n d_Mod_squires_91 rfl rfl ?_
        refine wp_iload d_Mod_squires_92 rfl ?_
        obtain ⟨v28, e29, h⟩ := ob1_some h
        refine wl_callV1 d_Mod_squires_94 lc_Mod_stuckAt lv_Mod_128 rfl sh_312 rfl rfl ⟨rfl, rfl⟩ ⟨by decide, by decide⟩ ?_
        refine s_Mod_stuckAt (d := d + 1) e29 ?_
        refine wl_callV1 d_Mod_squires_97 lc_Mod_thingAt lv_Mod_124 rfl sh_312 rfl rfl ⟨rfl, rfl⟩ ⟨by decide, by decide⟩ ?_
        refine s_Mod_thingAt (d := d + 2) rfl ?_
        refine wp_iconst d_Mod_squires_100 (v := nI 2) rfl ?_
        refine wp_iadd d_Mod_squires_101 ?_
        obtain ⟨v31, e30, h⟩ := ob1_some h
        refine wa_ald d_Mod_squires_102 sh_313 e30 ?_
        refine wp_istore d_Mod_squires_103 (by decide) ?_
        obtain ⟨first_66, M67, e68, h⟩ := ob2_some h
        have k65 : ∀ u6 u7 : Value, wp X (d + 3) f_Mod_squires (0, 0) 199 [.ref 312, q1, .int all_, .int first_66, .int i_, .int v31, u6, u7] [] (lay M67) Q := by
          intro u6 u7
          refine wp_iload_n d_Mod_squires_199 rfl rfl ?_
          refine wp_iload d_Mod_squires_200 rfl ?_
          refine wp_iadd d_Mod_squires_202 ?_
          refine wp_istore_n d_Mod_squires_203 rfl (by decide) ?_
          refine wp_iinc d_Mod_squires_204 (v := i_ + nI 1) rfl rfl ?_
          refine wp_goto 46 d_Mod_squires_207 rfl ?_
          exact ih _ _ _ _ _ _ _ h
        refine wp_iload_n d_Mod_squires_105 rfl rfl ?_
        refine wz_ne 127 d_Mod_squires_106 rfl (fun h106 => ?_) (fun h106 => ?_)
        · replace e68 := inn e68 h106
          refine wp_bipush d_Mod_squires_127 (v := nI 20) rfl ?_
          refine wp_istore d_Mod_squires_129 (by decide) ?_
          obtain ⟨M98, e99, e68⟩ := ob1_some e68
          refine l_Mod_squires_3 ?_ _ _ _ _ e99
          intro u6 u7
          cases e68
          exact k65 _ _
        · replace e68 := ip e68 h106
          refine wp_iload d_Mod_squires_109 rfl ?_
          refine wp_istore_n d_Mod_squires_111 rfl (by decide) ?_
          refine wp_aload_n d_Mod_squires_112 rfl rfl ?_
          refine wl_getR d_Mod_squires_113 lf_Mod_98 sh_312 rfl ?_
          refine wp_sipush d_Mod_squires_116 (v := nI 181) rfl ?_
          refine wp_iload d_Mod_squires_119 rfl ?_
          refine wp_iadd d_Mod_squires_121 ?_
          refine wp_iconst d_Mod_squires_122 (v := nI 1) rfl ?_
          obtain ⟨M101, e100, e68⟩ := ob1_some e68
          refine wa_ast d_Mod_squires_123 sh_341 e100 ?_
          cases e68
          refine wp_goto 199 d_Mod_squires_124 rfl ?_
          exact k65 _ _
      obtain ⟨x102, e103, e5⟩ := ob1_some e5
      have k108 : ∀ u5 u6 u7 : Value, x102 = true → wp X (d + 3) f_Mod_squires (0, 0) 204 [.ref 312, q1, .int all_, .int first_, .int i_, u5, u6, u7] [] (lay M) Q := by
        intro u5 u6 u7 x109
        replace e5 := ip e5 x109
        cases e5
        exact k24 _ _ _ rfl
      have k110 : ∀ u5 u6 u7 : Value, ¬ x102 = true → wp X (d + 3) f_Mod_squires (0, 0) 62 [.ref 312, q1, .int all_, .int first_, .int i_, u5, u6, u7] [] (lay M) Q := by
        intro u5 u6 u7 x111
        replace e5 := inn e5 x111
        refine wp_aload_n d_Mod_squires_62 rfl rfl ?_
        refine wl_getR d_Mod_squires_63 lf_Mod_7 sh_312 rfl ?_
        refine wp_aload_n d_Mod_squires_66 rfl rfl ?_
        refine wp_aload_n d_Mod_squires_67 rfl rfl ?_
        refine wp_iload d_Mod_squires_68 rfl ?_
        obtain ⟨v112, e113, e5⟩ := ob1_some e5
        refine wl_callV1 d_Mod_squires_70 lc_Mod_stuckAt lv_Mod_128 rfl sh_312 rfl rfl ⟨rfl, rfl⟩ ⟨by decide, by decide⟩ ?_
        refine s_Mod_stuckAt (d := d + 1) e113 ?_
        refine wl_callV1 d_Mod_squires_73 lc_Mod_thingAt lv_Mod_124 rfl sh_312 rfl rfl ⟨rfl, rfl⟩ ⟨by decide, by decide⟩ ?_
        refine s_Mod_thingAt (d := d + 2) rfl ?_
        refine wp_iconst d_Mod_squires_76 (v := nI 1) rfl ?_
        refine wp_iadd d_Mod_squires_77 ?_
        obtain ⟨v115, e114, e5⟩ := ob1_some e5
        refine wa_ald d_Mod_squires_78 sh_313 e114 ?_
        refine wp_iconst d_Mod_squires_79 (v := nI 4) rfl ?_
        refine wq_icmp_eq 86 d_Mod_squires_80 rfl (fun h80 => ?_) (fun h80 => ?_)
        · cases e5
          exact k26 _ _ _ (fun z => (fun z => z h80) (of_decide_eq_true z))
        · cases e5
          refine wp_goto 204 d_Mod_squires_83 rfl ?_
          exact k24 _ _ _ (decide_eq_true h80)
      obtain ⟨x116, e117, e103⟩ := ob1_some e103
      cases e103
      refine wp_aload_n d_Mod_squires_53 rfl rfl ?_
      refine wp_iload d_Mod_squires_54 rfl ?_
      obtain ⟨v118, e119, e117⟩ := ob1_some e117
      refine wl_callV1 d_Mod_squires_56 lc_Mod_isTaken lv_Mod_332 rfl sh_312 rfl rfl ⟨rfl, rfl⟩ ⟨by decide, by decide⟩ ?_
      refine s_Mod_isTaken (d := d) e119 ?_
      refine wc_eq 204 d_Mod_squires_59 rfl (fun h59 => ?_) (fun h59 => ?_)
      · cases e117
        exact k108 _ _ _ (nb_f h59)
      · cases e117
        exact k110 _ _ _ (nb_t h59)
theorem l_Mod_squires_6 {all_ : Int32} {n_ : Int32} {M : mM}  {q1 : Value} {q3 : Value} {least_r : Int32} {few_r : Int32} (K : ∀ u7 : Value, wp X (d + 3) f_Mod_squires (0, 0) 304 [.ref 312, q1, .int all_, q3, .int least_r, .int few_r, .int n_, u7] [] (lay M) Q) : ∀ (n : Nat) (least_ : Int32) (few_ : Int32) (v_ : Int32), L_Mod_squires_6 z all_ n_ M n least_ few_ v_ = some (least_r, few_r) → wp X (d + 3) f_Mod_squires (0, 0) 239 [.ref 312, q1, .int all_, q3, .int least_, .int few_, .int n_, .int v_] [] (lay M) Q := by
  intro n
  induction n with
  | zero => intro least_ few_ v_ h; exact nn h
  | succ n ih =>
    intro least_ few_ v_ h
    refine wp_iload d_Mod_squires_239 rfl ?_
    refine wp_sipush d_Mod_squires_241 (v := nI 181) rfl ?_
    refine wq_icmp_ge 304 d_Mod_squires_244 rfl (fun h244 => ?_) (fun h244 => ?_)
    · replace h := inn h h244
      cases h
      exact K _
    · replace h := ip h h244
      obtain ⟨x126, e127, h⟩ := ob1_some h
      have k138 : x126 = true → wp X (d + 3) f_Mod_squires (0, 0) 298 [.ref 312, q1, .int all_, q3, .int least_, .int few_, .int n_, .int v_] [] (lay M) Q := by
        intro x139
        replace h := ip h x139
        refine wp_iinc d_Mod_squires_298 (v := v_ + nI 1) rfl rfl ?_
        refine wp_goto 239 d_Mod_squires_301 rfl ?_
        exact ih _ _ _ h
      have k140 : ¬ x126 = true → wp X (d + 3) f_Mod_squires (0, 0) 282 [.ref 312, q1, .int all_, q3, .int least_, .int few_, .int n_, .int v_] [] (lay M) Q := by
        intro x141
        replace h := inn h x141
        refine wp_aload_n d_Mod_squires_282 rfl rfl ?_
        refine wp_iload d_Mod_squires_283 rfl ?_
        refine wp_iload_n d_Mod_squires_285 rfl rfl ?_
        refine wp_iload d_Mod_squires_286 rfl ?_
        refine wp_isub d_Mod_squires_288 ?_
        refine wl_callV2 d_Mod_squires_289 lc_Mod_apart lv_Mod_306 rfl sh_312 rfl rfl ⟨rfl, rfl⟩ ⟨by decide, by decide⟩ ?_
        refine s_Mod_apart (d := d + 2) rfl ?_
        refine wp_istore d_Mod_squires_292 (by decide) ?_
        refine wp_iload d_Mod_squires_294 rfl ?_
        refine wp_istore d_Mod_squires_296 (by decide) ?_
        refine wp_iinc d_Mod_squires_298 (v := v_ + nI 1) rfl rfl ?_
        refine wp_goto 239 d_Mod_squires_301 rfl ?_
        exact ih _ _ _ h
      obtain ⟨x142, e143, e127⟩ := ob1_some e127
      have k146 : x142 = true → wp X (d + 3) f_Mod_squires (0, 0) 298 [.ref 312, q1, .int all_, q3, .int least_, .int few_, .int n_, .int v_] [] (lay M) Q := by
        intro x147
        replace e127 := ip e127 x147
        cases e127
        exact k138 rfl
      have k148 : ¬ x142 = true → wp X (d + 3) f_Mod_squires (0, 0) 264 [.ref 312, q1, .int all_, q3, .int least_, .int few_, .int n_, .int v_] [] (lay M) Q := by
        intro x149
        replace e127 := inn e127 x149
        refine wp_aload_n d_Mod_squires_264 rfl rfl ?_
        refine wp_iload d_Mod_squires_265 rfl ?_
        refine wp_iload_n d_Mod_squires_267 rfl rfl ?_
        refine wp_iload d_Mod_squires_268 rfl ?_
        refine wp_isub d_Mod_squires_270 ?_
        refine wl_callV2 d_Mod_squires_271 lc_Mod_apart lv_Mod_306 rfl sh_312 rfl rfl ⟨rfl, rfl⟩ ⟨by decide, by decide⟩ ?_
        refine s_Mod_apart (d := d + 2) rfl ?_
        refine wp_iload d_Mod_squires_274 rfl ?_
        refine wq_icmp_lt 282 d_Mod_squires_276 rfl (fun h276 => ?_) (fun h276 => ?_)
        · cases e127
          exact k140 (fun z => (fun z => z h276) (of_decide_eq_true z))
        · cases e127
          refine wp_goto 298 d_Mod_squires_279 rfl ?_
          exact k138 (decide_eq_true h276)
      refine wp_aload_n d_Mod_squires_247 rfl rfl ?_
      refine wl_getR d_Mod_squires_248 lf_Mod_98 sh_312 rfl ?_
      refine wp_sipush d_Mod_squires_251 (v := nI 181) rfl ?_
      refine wp_iload d_Mod_squires_254 rfl ?_
      refine wp_imul d_Mod_squires_256 ?_
      refine wp_iload d_Mod_squires_257 rfl ?_
      refine wp_iadd d_Mod_squires_259 ?_
      obtain ⟨v151, e150, e143⟩ := ob1_some e143
      refine wa_ald d_Mod_squires_260 sh_341 e150 ?_
      refine wz_eq 298 d_Mod_squires_261 rfl (fun h261 => ?_) (fun h261 => ?_)
      · cases e143
        exact k146 (decide_eq_true h261)
      · cases e143
        exact k148 (fun z => h261 (of_decide_eq_true z))
theorem l_Mod_squires_5 {all_ : Int32} {M : mM}  {q1 : Value} {q3 : Value} {least_r : Int32} {few_r : Int32} (K : ∀ u6 u7 : Value, wp X (d + 3) f_Mod_squires (0, 0) 310 [.ref 312, q1, .int all_, q3, .int least_r, .int few_r, u6, u7] [] (lay M) Q) : ∀ (n : Nat) (least_ : Int32) (few_ : Int32) (n_ : Int32) (u7 : Value), L_Mod_squires_5 z all_ M n least_ few_ n_ = some (least_r, few_r) → wp X (d + 3) f_Mod_squires (0, 0) 229 [.ref 312, q1, .int all_, q3, .int least_, .int few_, .int n_, u7] [] (lay M) Q := by
  intro n
  induction n with
  | zero => intro least_ few_ n_ u7 h; exact nn h
  | succ n ih =>
    intro least_ few_ n_ u7 h
    refine wp_iload d_Mod_squires_229 rfl ?_
    refine wp_bipush d_Mod_squires_231 (v := nI 21) rfl ?_
    refine wq_icmp_ge 310 d_Mod_squires_233 rfl (fun h233 => ?_) (fun h233 => ?_)
    · replace h := inn h h233
      cases h
      exact K _ _
    · replace h := ip h h233
      refine wp_iconst d_Mod_squires_236 (v := nI 0) rfl ?_
      refine wp_istore d_Mod_squires_237 (by decide) ?_
      obtain ⟨least_152, few_153, e154, h⟩ := ob2_some h
      refine l_Mod_squires_6 ?_ _ _ _ _ e154
      intro u7
      refine wp_iinc d_Mod_squires_304 (v := n_ + nI 1) rfl rfl ?_
      refine wp_goto 229 d_Mod_squires_307 rfl ?_
      exact ih _ _ _ _ h
theorem s_Mod_squires {what_ : Int32} {M : mM} {r : Int32} {M' : mM} (h : F_Mod_squires z what_ M = some (r, M')) (hq : Q (some (.int r)) (lay M')) : Sp X (d + 3) f_Mod_squires [.ref 312, .int what_] (lay M) Q := by
  refine Sp_of (by decide) rfl (Nat.le_of_ble_eq_true rfl) ?_
  refine wp_aload_n d_Mod_squires_0 rfl rfl ?_
  refine wp_iconst d_Mod_squires_1 (v := nI 0) rfl ?_
  refine wl_putC d_Mod_squires_2 lp_Mod_107 sh_312 rfl ⟨rfl, rfl⟩ ?_
  refine wp_aload_n d_Mod_squires_5 rfl rfl ?_
  refine wp_iload_n d_Mod_squires_6 rfl rfl ?_
  refine wp_iconst d_Mod_squires_7 (v := nI 0) rfl ?_
  refine wp_iconst d_Mod_squires_8 (v := nI 1) rfl ?_
  refine wl_callV3 d_Mod_squires_9 lc_Mod_isIn lv_Mod_135 rfl sh_312 rfl rfl ⟨rfl, rfl⟩ ⟨by decide, by decide⟩ ?_
  refine s_Mod_isIn (d := d + 2) rfl ?_
  refine wc_ne 17 d_Mod_squires_12 rfl (fun h12 => ?_) (fun h12 => ?_)
  · replace h := inn h (fun z => z h12)
    refine wp_iconst d_Mod_squires_17 (v := nI 0) rfl ?_
    refine wp_istore_n d_Mod_squires_18 rfl (by decide) ?_
    obtain ⟨M3, e160, h⟩ := ob1_some h
    refine l_Mod_squires_1 ?_ _ _ _ _ _ _ _ _ e160
    intro u2 u3 u4 u5 u6 u7
    refine wp_iconst d_Mod_squires_39 (v := nI 0) rfl ?_
    refine wp_istore_n d_Mod_squires_40 rfl (by decide) ?_
    refine wp_iconst d_Mod_squires_41 (v := nI 0) rfl ?_
    refine wp_istore_n d_Mod_squires_42 rfl (by decide) ?_
    refine wp_iconst d_Mod_squires_43 (v := nI 0) rfl ?_
    refine wp_istore d_Mod_squires_44 (by decide) ?_
    obtain ⟨all_120, first_121, M122, e159, h⟩ := ob3_some h
    refine l_Mod_squires_2 ?_ _ _ _ _ _ _ _ _ e159
    intro u4 u5 u6 u7
    have k123 : ∀ u4 u5 u6 u7 : Value, wp X (d + 3) f_Mod_squires (0, 0) 221 [.ref 312, .int what_, .int all_120, .int first_121, u4, u5, u6, u7] [.int (if first_121 = (nI 0) then nI 0 else nI 100000000)] (lay M122) Q := by
      intro u4 u5 u6 u7
      obtain ⟨v124, e125, h⟩ := ob1_some h
      refine wx_int e125 ?_
      refine wp_istore d_Mod_squires_221 (by decide) ?_
      refine wp_iconst d_Mod_squires_223 (v := nI 0) rfl ?_
      refine wp_istore d_Mod_squires_224 (by decide) ?_
      refine wp_iconst d_Mod_squires_226 (v := nI 1) rfl ?_
      refine wp_istore d_Mod_squires_227 (by decide) ?_
      obtain ⟨least_155, few_156, e158, h⟩ := ob2_some h
      refine l_Mod_squires_5 ?_ _ _ _ _ _ e158
      intro u6 u7
      have k157 : ∀ u6 u7 : Value, wp X (d + 3) f_Mod_squires (0, 0) 321 [.ref 312, .int what_, .int all_120, .int first_121, .int least_155, .int few_156, u6, u7] [.int (if what_ = (nI 0) then least_155 else few_156)] (lay M122) Q := by
        intro u6 u7
        cases h
        exact wp_iret d_Mod_squires_321 rfl rfl rfl hq
      refine wp_iload_n d_Mod_squires_310 rfl rfl ?_
      refine wz_ne 319 d_Mod_squires_311 rfl (fun h311 => ?_) (fun h311 => ?_)
      · refine wp_iload d_Mod_squires_319 rfl ?_
        exact wj_in h311 (k157 _ _)
      · refine wp_iload d_Mod_squires_314 rfl ?_
        refine wp_goto 321 d_Mod_squires_316 rfl ?_
        exact wj_ip h311 (k157 _ _)
    refine wp_iload_n d_Mod_squires_210 rfl rfl ?_
    refine wz_ne 218 d_Mod_squires_211 rfl (fun h211 => ?_) (fun h211 => ?_)
    · refine wp_ldcw (v := nI 100000000) d_Mod_squires_218 lk_Mod_466 ?_
      exact wj_in h211 (k123 _ _ _ _)
    · refine wp_iconst d_Mod_squires_214 (v := nI 0) rfl ?_
      refine wp_goto 221 d_Mod_squires_215 rfl ?_
      exact wj_ip h211 (k123 _ _ _ _)
  · replace h := ip h h12
    refine wp_iconst d_Mod_squires_15 (v := (-1)) rfl ?_
    cases h
    exact wp_iret d_Mod_squires_16 rfl rfl rfl hq
def L_Mod_held_1 (z : Nat) : Nat → Int32 → mM → Option (mM)
  | 0, _, _ => none
  | n + 1, v_, M =>
    if v_ < (nI 31) then
    ob1 (some ((if v_ = (nI 0) then nI 1 else nI 0))) fun v4 =>
    ob1 (wa M 342 31 v_ v4) fun M7 =>
    L_Mod_held_1 z n (v_ + nI 1) M7
    else
    some (M)
def L_Mod_held_4 (z : Nat) (v_ : Int32) (M : mM) : Nat → Int32 → Int32 → Option (Int32)
  | 0, _, _ => none
  | n + 1, sum_, f_ =>
    if (f_ < (nI 6) ∧ ¬ (v_ < f_)) then
    ob1 (ra M 342 31 (v_ - f_)) fun v12 =>
    L_Mod_held_4 z v_ M n (F_Mod_added sum_ v12) (f_ + nI 1)
    else
    some (sum_)
def L_Mod_held_3 (z : Nat) (what_ : Int32) : Nat → Int32 → mM → Option (mM)
  | 0, _, _ => none
  | n + 1, v_, M =>
    if ¬ (v_ < (nI 0)) then
    ob1 (L_Mod_held_4 z v_ M z (nI 0) what_) fun sum_13 =>
    ob1 (wa M 342 31 v_ sum_13) fun M15 =>
    L_Mod_held_3 z what_ n (v_ + (-1)) M15
    else
    some (M)
def L_Mod_held_2 (z : Nat) (n_ : Int32) (k_ : Int32) (what_ : Int32) : Nat → Int32 → mM → Option (mM)
  | 0, _, _ => none
  | n + 1, hand_, M =>
    if hand_ < k_ then
    ob1 (L_Mod_held_3 z what_ z n_ M) fun M17 =>
    L_Mod_held_2 z n_ k_ what_ n (hand_ + nI 1) M17
    else
    some (M)
def F_Mod_held (z : Nat) (n_ : Int32) (k_ : Int32) (what_ : Int32) (M : mM) : Option (Int32 × mM) :=
  if ((¬ ((F_Mod_isIn n_ (nI 1) (nI 30)) = true) ∨ ¬ ((F_Mod_isIn k_ (nI 1) (nI 9)) = true)) ∨ ¬ ((F_Mod_isIn what_ (nI 0) (nI 1)) = true)) then
  some ((-1), M)
  else
  ob1 (L_Mod_held_1 z z (nI 0) M) fun M8 =>
  ob1 (L_Mod_held_2 z n_ k_ what_ z (nI 0) M8) fun M19 =>
  ob1 (ra M19 342 31 n_) fun v21 =>
  some (v21, M19)
theorem l_Mod_held_1  {q1 : Value} {q2 : Value} {q3 : Value} {N' : mM} (K : ∀ u4 u5 u6 u7 : Value, wp X (d + 1) f_Mod_held (0, 0) 72 [.ref 312, q1, q2, q3, u4, u5, u6, u7] [] (lay N') Q) : ∀ (n : Nat) (v_ : Int32) (M : mM) (u5 u6 u7 : Value), L_Mod_held_1 z n v_ M = some (N') → wp X (d + 1) f_Mod_held (0, 0) 42 [.ref 312, q1, q2, q3, .int v_, u5, u6, u7] [] (lay M) Q := by
  intro n
  induction n with
  | zero => intro v_ M u5 u6 u7 h; exact nn h
  | succ n ih =>
    intro v_ M u5 u6 u7 h
    refine wp_iload d_Mod_held_42 rfl ?_
    refine wp_bipush d_Mod_held_44 (v := nI 31) rfl ?_
    refine wq_icmp_ge 72 d_Mod_held_46 rfl (fun h46 => ?_) (fun h46 => ?_)
    · replace h := inn h h46
      cases h
      exact K _ _ _ _
    · replace h := ip h h46
      refine wp_aload_n d_Mod_held_49 rfl rfl ?_
      refine wl_getR d_Mod_held_50 lf_Mod_101 sh_312 rfl ?_
      refine wp_iload d_Mod_held_53 rfl ?_
      have k3 : ∀ u5 u6 u7 : Value, wp X (d + 1) f_Mod_held (0, 0) 65 [.ref 312, q1, q2, q3, .int v_, u5, u6, u7] [.int (if v_ = (nI 0) then nI 1 else nI 0), .int v_, .ref 342] (lay M) Q := by
        intro u5 u6 u7
        obtain ⟨v4, e5, h⟩ := ob1_some h
        refine wx_int e5 ?_
        obtain ⟨M7, e6, h⟩ := ob1_some h
        refine wa_ast d_Mod_held_65 sh_342 e6 ?_
        refine wp_iinc d_Mod_held_66 (v := v_ + nI 1) rfl rfl ?_
        refine wp_goto 42 d_Mod_held_69 rfl ?_
        exact ih _ _ _ _ _ h
      refine wp_iload d_Mod_held_55 rfl ?_
      refine wz_ne 64 d_Mod_held_57 rfl (fun h57 => ?_) (fun h57 => ?_)
      · refine wp_iconst d_Mod_held_64 (v := nI 0) rfl ?_
        exact wj_in h57 (k3 _ _ _)
      · refine wp_iconst d_Mod_held_60 (v := nI 1) rfl ?_
        refine wp_goto 65 d_Mod_held_61 rfl ?_
        exact wj_ip h57 (k3 _ _ _)
theorem l_Mod_held_4 {v_ : Int32} {M : mM}  {q1 : Value} {q2 : Value} {q3 : Value} {q4 : Value} {sum_r : Int32} (K : ∀ u7 : Value, wp X (d + 1) f_Mod_held (0, 0) 133 [.ref 312, q1, q2, q3, q4, .int v_, .int sum_r, u7] [] (lay M) Q) : ∀ (n : Nat) (sum_ : Int32) (f_ : Int32), L_Mod_held_4 z v_ M n sum_ f_ = some (sum_r) → wp X (d + 1) f_Mod_held (0, 0) 95 [.ref 312, q1, q2, q3, q4, .int v_, .int sum_, .int f_] [] (lay M) Q := by
  intro n
  induction n with
  | zero => intro sum_ f_ h; exact nn h
  | succ n ih =>
    intro sum_ f_ h
    have k9 : ¬ (f_ < (nI 6) ∧ ¬ (v_ < f_)) → wp X (d + 1) f_Mod_held (0, 0) 133 [.ref 312, q1, q2, q3, q4, .int v_, .int sum_, .int f_] [] (lay M) Q := by
      intro x10
      replace h := inn h x10
      cases h
      exact K _
    refine wp_iload d_Mod_held_95 rfl ?_
    refine wp_bipush d_Mod_held_97 (v := nI 6) rfl ?_
    refine wq_icmp_ge 133 d_Mod_held_99 rfl (fun h99 => ?_) (fun h99 => ?_)
    · exact k9 (fun z => h99 z.1)
    · refine wp_iload d_Mod_held_102 rfl ?_
      refine wp_iload d_Mod_held_104 rfl ?_
      refine wq_icmp_gt 133 d_Mod_held_106 rfl (fun h106 => ?_) (fun h106 => ?_)
      · exact k9 (fun z => (fun z => z h106) z.2)
      · replace h := ip h ⟨h99, h106⟩
        refine wp_aload_n d_Mod_held_109 rfl rfl ?_
        refine wp_iload d_Mod_held_110 rfl ?_
        refine wp_aload_n d_Mod_held_112 rfl rfl ?_
        refine wl_getR d_Mod_held_113 lf_Mod_101 sh_312 rfl ?_
        refine wp_iload d_Mod_held_116 rfl ?_
        refine wp_iload d_Mod_held_118 rfl ?_
        refine wp_isub d_Mod_held_120 ?_
        obtain ⟨v12, e11, h⟩ := ob1_some h
        refine wa_ald d_Mod_held_121 sh_342 e11 ?_
        refine wl_callV2 d_Mod_held_122 lc_Mod_added lv_Mod_407 rfl sh_312 rfl rfl ⟨rfl, rfl⟩ ⟨by decide, by decide⟩ ?_
        refine s_Mod_added (d := d) rfl ?_
        refine wp_istore d_Mod_held_125 (by decide) ?_
        refine wp_iinc d_Mod_held_127 (v := f_ + nI 1) rfl rfl ?_
        refine wp_goto 95 d_Mod_held_130 rfl ?_
        exact ih _ _ h
theorem l_Mod_held_3 {what_ : Int32}  {q1 : Value} {q2 : Value} {q4 : Value} {N' : mM} (K : ∀ u5 u6 u7 : Value, wp X (d + 1) f_Mod_held (0, 0) 148 [.ref 312, q1, q2, .int what_, q4, u5, u6, u7] [] (lay N') Q) : ∀ (n : Nat) (v_ : Int32) (M : mM) (u6 u7 : Value), L_Mod_held_3 z what_ n v_ M = some (N') → wp X (d + 1) f_Mod_held (0, 0) 84 [.ref 312, q1, q2, .int what_, q4, .int v_, u6, u7] [] (lay M) Q := by
  intro n
  induction n with
  | zero => intro v_ M u6 u7 h; exact nn h
  | succ n ih =>
    intro v_ M u6 u7 h
    refine wp_iload d_Mod_held_84 rfl ?_
    refine wz_lt 148 d_Mod_held_86 rfl (fun h86 => ?_) (fun h86 => ?_)
    · replace h := inn h (fun z => z h86)
      cases h
      exact K _ _ _
    · replace h := ip h h86
      refine wp_iconst d_Mod_held_89 (v := nI 0) rfl ?_
      refine wp_istore d_Mod_held_90 (by decide) ?_
      refine wp_iload_n d_Mod_held_92 rfl rfl ?_
      refine wp_istore d_Mod_held_93 (by decide) ?_
      obtain ⟨sum_13, e16, h⟩ := ob1_some h
      refine l_Mod_held_4 ?_ _ _ _ e16
      intro u7
      refine wp_aload_n d_Mod_held_133 rfl rfl ?_
      refine wl_getR d_Mod_held_134 lf_Mod_101 sh_312 rfl ?_
      refine wp_iload d_Mod_held_137 rfl ?_
      refine wp_iload d_Mod_held_139 rfl ?_
      obtain ⟨M15, e14, h⟩ := ob1_some h
      refine wa_ast d_Mod_held_141 sh_342 e14 ?_
      refine wp_iinc d_Mod_held_142 (v := v_ + (-1)) rfl rfl ?_
      refine wp_goto 84 d_Mod_held_145 rfl ?_
      exact ih _ _ _ _ h
theorem l_Mod_held_2 {n_ : Int32} {k_ : Int32} {what_ : Int32}  {N' : mM} (K : ∀ u4 u5 u6 u7 : Value, wp X (d + 1) f_Mod_held (0, 0) 154 [.ref 312, .int n_, .int k_, .int what_, u4, u5, u6, u7] [] (lay N') Q) : ∀ (n : Nat) (hand_ : Int32) (M : mM) (u5 u6 u7 : Value), L_Mod_held_2 z n_ k_ what_ n hand_ M = some (N') → wp X (d + 1) f_Mod_held (0, 0) 75 [.ref 312, .int n_, .int k_, .int what_, .int hand_, u5, u6, u7] [] (lay M) Q := by
  intro n
  induction n with
  | zero => intro hand_ M u5 u6 u7 h; exact nn h
  | succ n ih =>
    intro hand_ M u5 u6 u7 h
    refine wp_iload d_Mod_held_75 rfl ?_
    refine wp_iload_n d_Mod_held_77 rfl rfl ?_
    refine wq_icmp_ge 154 d_Mod_held_78 rfl (fun h78 => ?_) (fun h78 => ?_)
    · replace h := inn h h78
      cases h
      exact K _ _ _ _
    · replace h := ip h h78
      refine wp_iload_n d_Mod_held_81 rfl rfl ?_
      refine wp_istore d_Mod_held_82 (by decide) ?_
      obtain ⟨M17, e18, h⟩ := ob1_some h
      refine l_Mod_held_3 ?_ _ _ _ _ _ e18
      intro u5 u6 u7
      refine wp_iinc d_Mod_held_148 (v := hand_ + nI 1) rfl rfl ?_
      refine wp_goto 75 d_Mod_held_151 rfl ?_
      exact ih _ _ _ _ _ h
theorem s_Mod_held {n_ : Int32} {k_ : Int32} {what_ : Int32} {M : mM} {r : Int32} {M' : mM} (h : F_Mod_held z n_ k_ what_ M = some (r, M')) (hq : Q (some (.int r)) (lay M')) : Sp X (d + 1) f_Mod_held [.ref 312, .int n_, .int k_, .int what_] (lay M) Q := by
  refine Sp_of (by decide) rfl (Nat.le_of_ble_eq_true rfl) ?_
  refine wp_aload_n d_Mod_held_0 rfl rfl ?_
  refine wp_iconst d_Mod_held_1 (v := nI 0) rfl ?_
  refine wl_putC d_Mod_held_2 lp_Mod_107 sh_312 rfl ⟨rfl, rfl⟩ ?_
  have k1 : ∀ u4 u5 u6 u7 : Value, ((¬ ((F_Mod_isIn n_ (nI 1) (nI 30)) = true) ∨ ¬ ((F_Mod_isIn k_ (nI 1) (nI 9)) = true)) ∨ ¬ ((F_Mod_isIn what_ (nI 0) (nI 1)) = true)) → wp X (d + 1) f_Mod_held (0, 0) 37 [.ref 312, .int n_, .int k_, .int what_, u4, u5, u6, u7] [] (lay M) Q := by
    intro u4 u5 u6 u7 x2
    replace h := ip h x2
    refine wp_iconst d_Mod_held_37 (v := (-1)) rfl ?_
    cases h
    exact wp_iret d_Mod_held_38 rfl rfl rfl hq
  refine wp_aload_n d_Mod_held_5 rfl rfl ?_
  refine wp_iload_n d_Mod_held_6 rfl rfl ?_
  refine wp_iconst d_Mod_held_7 (v := nI 1) rfl ?_
  refine wp_bipush d_Mod_held_8 (v := nI 30) rfl ?_
  refine wl_callV3 d_Mod_held_10 lc_Mod_isIn lv_Mod_135 rfl sh_312 rfl rfl ⟨rfl, rfl⟩ ⟨by decide, by decide⟩ ?_
  refine s_Mod_isIn (d := d) rfl ?_
  refine wc_eq 37 d_Mod_held_13 rfl (fun h13 => ?_) (fun h13 => ?_)
  · exact k1 _ _ _ _ (Or.inl (Or.inl h13))
  · refine wp_aload_n d_Mod_held_16 rfl rfl ?_
    refine wp_iload_n d_Mod_held_17 rfl rfl ?_
    refine wp_iconst d_Mod_held_18 (v := nI 1) rfl ?_
    refine wp_bipush d_Mod_held_19 (v := nI 9) rfl ?_
    refine wl_callV3 d_Mod_held_21 lc_Mod_isIn lv_Mod_135 rfl sh_312 rfl rfl ⟨rfl, rfl⟩ ⟨by decide, by decide⟩ ?_
    refine s_Mod_isIn (d := d) rfl ?_
    refine wc_eq 37 d_Mod_held_24 rfl (fun h24 => ?_) (fun h24 => ?_)
    · exact k1 _ _ _ _ (Or.inl (Or.inr h24))
    · refine wp_aload_n d_Mod_held_27 rfl rfl ?_
      refine wp_iload_n d_Mod_held_28 rfl rfl ?_
      refine wp_iconst d_Mod_held_29 (v := nI 0) rfl ?_
      refine wp_iconst d_Mod_held_30 (v := nI 1) rfl ?_
      refine wl_callV3 d_Mod_held_31 lc_Mod_isIn lv_Mod_135 rfl sh_312 rfl rfl ⟨rfl, rfl⟩ ⟨by decide, by decide⟩ ?_
      refine s_Mod_isIn (d := d) rfl ?_
      refine wc_ne 39 d_Mod_held_34 rfl (fun h34 => ?_) (fun h34 => ?_)
      · replace h := inn h (fun z => z.elim (fun z => z.elim (fun z => z h13) (fun z => z h24)) (fun z => z h34))
        refine wp_iconst d_Mod_held_39 (v := nI 0) rfl ?_
        refine wp_istore d_Mod_held_40 (by decide) ?_
        obtain ⟨M8, e23, h⟩ := ob1_some h
        refine l_Mod_held_1 ?_ _ _ _ _ _ _ e23
        intro u4 u5 u6 u7
        refine wp_iconst d_Mod_held_72 (v := nI 0) rfl ?_
        refine wp_istore d_Mod_held_73 (by decide) ?_
        obtain ⟨M19, e22, h⟩ := ob1_some h
        refine l_Mod_held_2 ?_ _ _ _ _ _ _ e22
        intro u4 u5 u6 u7
        refine wp_aload_n d_Mod_held_154 rfl rfl ?_
        refine wl_getR d_Mod_held_155 lf_Mod_101 sh_312 rfl ?_
        refine wp_iload_n d_Mod_held_158 rfl rfl ?_
        obtain ⟨v21, e20, h⟩ := ob1_some h
        refine wa_ald d_Mod_held_159 sh_342 e20 ?_
        cases h
        exact wp_iret d_Mod_held_160 rfl rfl rfl hq
      · exact k1 _ _ _ _ (Or.inr h34)
def F_Mod_nimber (n_ : Int32) : Int32 :=
  (if n_ = (nI 2) then nI 2 else jrem n_ (nI 2))
theorem s_Mod_nimber {n_ : Int32} {M : mM} {r : Int32} (h : F_Mod_nimber n_ = r) (hq : Q (some (.int r)) (lay M)) : Sp X d f_Mod_nimber [.ref 312, .int n_] (lay M) Q := by
  refine Sp_of (by decide) rfl (Nat.le_of_ble_eq_true rfl) ?_
  have k1 : wp X d f_Mod_nimber (0, 0) 12 [.ref 312, .int n_] [.int (if n_ = (nI 2) then nI 2 else jrem n_ (nI 2))] (lay M) Q := by
    cases h
    exact wp_iret d_Mod_nimber_12 rfl rfl rfl hq
  refine wp_iload_n d_Mod_nimber_0 rfl rfl ?_
  refine wp_iconst d_Mod_nimber_1 (v := nI 2) rfl ?_
  refine wq_icmp_ne 9 d_Mod_nimber_2 rfl (fun h2 => ?_) (fun h2 => ?_)
  · refine wp_iload_n d_Mod_nimber_9 rfl rfl ?_
    refine wp_iconst d_Mod_nimber_10 (v := nI 2) rfl ?_
    refine wp_irem d_Mod_nimber_11 (by decide) ?_
    exact wj_in h2 (k1)
  · refine wp_iconst d_Mod_nimber_5 (v := nI 2) rfl ?_
    refine wp_goto 12 d_Mod_nimber_6 rfl ?_
    exact wj_ip h2 (k1)
def L_Mod_game_1 (z : Nat) (M : mM) : Nat → Int32 → Int32 → Option (Int32)
  | 0, _, _ => none
  | n + 1, all_, t_ =>
    ob1 (ob1 (ra M 313 270 (nI 8)) fun v14 =>
    some (decide (t_ < v14))) fun x3 =>
    if x3 = true then
    ob1 (ra M 313 270 ((F_Mod_thingAt t_) + (nI 2))) fun v10 =>
    L_Mod_game_1 z M n (all_ ^^^ (F_Mod_nimber v10)) (t_ + nI 1)
    else
    some (all_)
def L_Mod_game_2 (z : Nat) (what_ : Int32) (all_ : Int32) (M : mM) (kt : Option (Int32)) : Nat → Int32 → Option (Int32)
  | 0, _ => none
  | n + 1, i_ =>
    if i_ < (nI 60) then
    ob1 (ob1 (ob1 (F_Mod_isTaken z i_ M) fun v48 =>
    some (v48)) fun x46 => some (!x46)) fun x16 =>
    if x16 = true then
    L_Mod_game_2 z what_ all_ M kt n (i_ + nI 1)
    else
    ob1 (F_Mod_stuckAt z i_ M) fun v26 =>
    ob1 (ra M 313 270 ((F_Mod_thingAt v26) + (nI 2))) fun v29 =>
    if (F_Mod_nimber (v29 - (nI 1))) = (all_ ^^^ (F_Mod_nimber v29)) then
    ob1 (if what_ = (nI 0) then
    ob1 (ra M 313 270 (F_Mod_thingAt v26)) fun v45 =>
    some (v45)
    else
    some (nI 1)) fun v42 =>
    some (v42)
    else
    if (v29 < (nI 4) ∧ (all_ ^^^ (F_Mod_nimber v29)) = (nI 0)) then
    ob1 (if what_ = (nI 0) then
    ob1 (ra M 313 270 (F_Mod_thingAt v26)) fun v38 =>
    some (v38)
    else
    some (v29)) fun v35 =>
    some (v35)
    else
    L_Mod_game_2 z what_ all_ M kt n (i_ + nI 1)
    else
    kt 
def F_Mod_game (z : Nat) (what_ : Int32) (M : mM) : Option (Int32) :=
  if ¬ ((F_Mod_isIn what_ (nI 0) (nI 1)) = true) then
  some ((-1))
  else
  ob1 (L_Mod_game_1 z M z (nI 0) (nI 0)) fun all_15 =>
  L_Mod_game_2 z what_ all_15 M (some ((-1))) z (nI 0)
theorem l_Mod_game_1 {M : mM}  {q1 : Value} {all_r : Int32} (K : ∀ u3 u4 u5 u6 : Value, wp X (d + 3) f_Mod_game (0, 0) 57 [.ref 312, q1, .int all_r, u3, u4, u5, u6] [] (lay M) Q) : ∀ (n : Nat) (all_ : Int32) (t_ : Int32) (u4 u5 u6 : Value), L_Mod_game_1 z M n all_ t_ = some (all_r) → wp X (d + 3) f_Mod_game (0, 0) 21 [.ref 312, q1, .int all_, .int t_, u4, u5, u6] [] (lay M) Q := by
  intro n
  induction n with
  | zero => intro all_ t_ u4 u5 u6 h; exact nn h
  | succ n ih =>
    intro all_ t_ u4 u5 u6 h
    obtain ⟨x3, e4, h⟩ := ob1_some h
    have k7 : ∀ u4 u5 u6 : Value, x3 = true → wp X (d + 3) f_Mod_game (0, 0) 32 [.ref 312, q1, .int all_, .int t_, u4, u5, u6] [] (lay M) Q := by
      intro u4 u5 u6 x8
      replace h := ip h x8
      refine wp_iload_n d_Mod_game_32 rfl rfl ?_
      refine wp_aload_n d_Mod_game_33 rfl rfl ?_
      refine wp_aload_n d_Mod_game_34 rfl rfl ?_
      refine wl_getR d_Mod_game_35 lf_Mod_7 sh_312 rfl ?_
      refine wp_aload_n d_Mod_game_38 rfl rfl ?_
      refine wp_iload_n d_Mod_game_39 rfl rfl ?_
      refine wl_callV1 d_Mod_game_40 lc_Mod_thingAt lv_Mod_124 rfl sh_312 rfl rfl ⟨rfl, rfl⟩ ⟨by decide, by decide⟩ ?_
      refine s_Mod_thingAt (d := d + 2) rfl ?_
      refine wp_iconst d_Mod_game_43 (v := nI 2) rfl ?_
      refine wp_iadd d_Mod_game_44 ?_
      obtain ⟨v10, e9, h⟩ := ob1_some h
      refine wa_ald d_Mod_game_45 sh_313 e9 ?_
      refine wl_callV1 d_Mod_game_46 lc_Mod_nimber lv_Mod_467 rfl sh_312 rfl rfl ⟨rfl, rfl⟩ ⟨by decide, by decide⟩ ?_
      refine s_Mod_nimber (d := d + 2) rfl ?_
      refine wp_ixor d_Mod_game_49 ?_
      refine wp_istore_n d_Mod_game_50 rfl (by decide) ?_
      refine wp_iinc d_Mod_game_51 (v := t_ + nI 1) rfl rfl ?_
      refine wp_goto 21 d_Mod_game_54 rfl ?_
      exact ih _ _ _ _ _ h
    have k11 : ∀ u4 u5 u6 : Value, ¬ x3 = true → wp X (d + 3) f_Mod_game (0, 0) 57 [.ref 312, q1, .int all_, .int t_, u4, u5, u6] [] (lay M) Q := by
      intro u4 u5 u6 x12
      replace h := inn h x12
      cases h
      exact K _ _ _ _
    refine wp_iload_n d_Mod_game_21 rfl rfl ?_
    refine wp_aload_n d_Mod_game_22 rfl rfl ?_
    refine wl_getR d_Mod_game_23 lf_Mod_7 sh_312 rfl ?_
    refine wp_bipush d_Mod_game_26 (v := nI 8) rfl ?_
    obtain ⟨v14, e13, e4⟩ := ob1_some e4
    refine wa_ald d_Mod_game_28 sh_313 e13 ?_
    refine wq_icmp_ge 57 d_Mod_game_29 rfl (fun h29 => ?_) (fun h29 => ?_)
    · cases e4
      exact k11 _ _ _ (fun z => h29 (of_decide_eq_true z))
    · cases e4
      exact k7 _ _ _ (decide_eq_true h29)
theorem l_Mod_game_2 {what_ : Int32} {all_ : Int32} {M : mM} {kt : Option (Int32)}  {r : Int32} (hq : Q (some (.int r)) (lay M)) (K : ∀  (u3 u4 u5 u6 : Value), kt  = some r → wp X (d + 3) f_Mod_game (0, 0) 171 [.ref 312, .int what_, .int all_, u3, u4, u5, u6] [] (lay M) Q) : ∀ (n : Nat) (i_ : Int32) (u4 u5 u6 : Value), L_Mod_game_2 z what_ all_ M kt n i_ = some r → wp X (d + 3) f_Mod_game (0, 0) 59 [.ref 312, .int what_, .int all_, .int i_, u4, u5, u6] [] (lay M) Q := by
  intro n
  induction n with
  | zero => intro i_ u4 u5 u6 h; exact nn h
  | succ n ih =>
    intro i_ u4 u5 u6 h
    refine wp_iload_n d_Mod_game_59 rfl rfl ?_
    refine wp_bipush d_Mod_game_60 (v := nI 60) rfl ?_
    refine wq_icmp_ge 171 d_Mod_game_62 rfl (fun h62 => ?_) (fun h62 => ?_)
    · replace h := inn h h62
      exact K _ _ _ _ h
    · replace h := ip h h62
      obtain ⟨x16, e17, h⟩ := ob1_some h
      have k22 : ∀ u4 u5 u6 : Value, x16 = true → wp X (d + 3) f_Mod_game (0, 0) 73 [.ref 312, .int what_, .int all_, .int i_, u4, u5, u6] [] (lay M) Q := by
        intro u4 u5 u6 x23
        replace h := ip h x23
        refine wp_goto 165 d_Mod_game_73 rfl ?_
        refine wp_iinc d_Mod_game_165 (v := i_ + nI 1) rfl rfl ?_
        refine wp_goto 59 d_Mod_game_168 rfl ?_
        exact ih _ _ _ _ h
      have k24 : ∀ u4 u5 u6 : Value, ¬ x16 = true → wp X (d + 3) f_Mod_game (0, 0) 76 [.ref 312, .int what_, .int all_, .int i_, u4, u5, u6] [] (lay M) Q := by
        intro u4 u5 u6 x25
        replace h := inn h x25
        refine wp_aload_n d_Mod_game_76 rfl rfl ?_
        refine wp_aload_n d_Mod_game_77 rfl rfl ?_
        refine wp_iload_n d_Mod_game_78 rfl rfl ?_
        obtain ⟨v26, e27, h⟩ := ob1_some h
        refine wl_callV1 d_Mod_game_79 lc_Mod_stuckAt lv_Mod_128 rfl sh_312 rfl rfl ⟨rfl, rfl⟩ ⟨by decide, by decide⟩ ?_
        refine s_Mod_stuckAt (d := d + 1) e27 ?_
        refine wl_callV1 d_Mod_game_82 lc_Mod_thingAt lv_Mod_124 rfl sh_312 rfl rfl ⟨rfl, rfl⟩ ⟨by decide, by decide⟩ ?_
        refine s_Mod_thingAt (d := d + 2) rfl ?_
        refine wp_istore d_Mod_game_85 (by decide) ?_
        refine wp_aload_n d_Mod_game_87 rfl rfl ?_
        refine wl_getR d_Mod_game_88 lf_Mod_7 sh_312 rfl ?_
        refine wp_iload d_Mod_game_91 rfl ?_
        refine wp_iconst d_Mod_game_93 (v := nI 2) rfl ?_
        refine wp_iadd d_Mod_game_94 ?_
        obtain ⟨v29, e28, h⟩ := ob1_some h
        refine wa_ald d_Mod_game_95 sh_313 e28 ?_
        refine wp_istore d_Mod_game_96 (by decide) ?_
        refine wp_iload_n d_Mod_game_98 rfl rfl ?_
        refine wp_aload_n d_Mod_game_99 rfl rfl ?_
        refine wp_iload d_Mod_game_100 rfl ?_
        refine wl_callV1 d_Mod_game_102 lc_Mod_nimber lv_Mod_467 rfl sh_312 rfl rfl ⟨rfl, rfl⟩ ⟨by decide, by decide⟩ ?_
        refine s_Mod_nimber (d := d + 2) rfl ?_
        refine wp_ixor d_Mod_game_105 ?_
        refine wp_istore d_Mod_game_106 (by decide) ?_
        refine wp_aload_n d_Mod_game_108 rfl rfl ?_
        refine wp_iload d_Mod_game_109 rfl ?_
        refine wp_iconst d_Mod_game_111 (v := nI 1) rfl ?_
        refine wp_isub d_Mod_game_112 ?_
        refine wl_callV1 d_Mod_game_113 lc_Mod_nimber lv_Mod_467 rfl sh_312 rfl rfl ⟨rfl, rfl⟩ ⟨by decide, by decide⟩ ?_
        refine s_Mod_nimber (d := d + 2) rfl ?_
        refine wp_iload d_Mod_game_116 rfl ?_
        refine wq_icmp_ne 137 d_Mod_game_118 rfl (fun h118 => ?_) (fun h118 => ?_)
        · replace h := inn h h118
          have k30 : ¬ (v29 < (nI 4) ∧ (all_ ^^^ (F_Mod_nimber v29)) = (nI 0)) → wp X (d + 3) f_Mod_game (0, 0) 165 [.ref 312, .int what_, .int all_, .int i_, .int (F_Mod_thingAt v26), .int v29, .int (all_ ^^^ (F_Mod_nimber v29))] [] (lay M) Q := by
            intro x31
            replace h := inn h x31
            refine wp_iinc d_Mod_game_165 (v := i_ + nI 1) rfl rfl ?_
            refine wp_goto 59 d_Mod_game_168 rfl ?_
            exact ih _ _ _ _ h
          refine wp_iload d_Mod_game_137 rfl ?_
          refine wp_iconst d_Mod_game_139 (v := nI 4) rfl ?_
          refine wq_icmp_ge 165 d_Mod_game_140 rfl (fun h140 => ?_) (fun h140 => ?_)
          · exact k30 (fun z => h140 z.1)
          · refine wp_iload d_Mod_game_143 rfl ?_
            refine wz_ne 165 d_Mod_game_145 rfl (fun h145 => ?_) (fun h145 => ?_)
            · exact k30 (fun z => h145 z.2)
            · replace h := ip h ⟨h140, h145⟩
              obtain ⟨v35, e36, h⟩ := ob1_some h
              have k34 : wp X (d + 3) f_Mod_game (0, 0) 164 [.ref 312, .int what_, .int all_, .int i_, .int (F_Mod_thingAt v26), .int v29, .int (all_ ^^^ (F_Mod_nimber v29))] [.int v35] (lay M) Q := by
                cases h
                exact wp_iret d_Mod_game_164 rfl rfl rfl hq
              refine wp_iload_n d_Mod_game_148 rfl rfl ?_
              refine wz_ne 162 d_Mod_game_149 rfl (fun h149 => ?_) (fun h149 => ?_)
              · replace e36 := inn e36 h149
                refine wp_iload d_Mod_game_162 rfl ?_
                cases e36
                exact k34
              · replace e36 := ip e36 h149
                refine wp_aload_n d_Mod_game_152 rfl rfl ?_
                refine wl_getR d_Mod_game_153 lf_Mod_7 sh_312 rfl ?_
                refine wp_iload d_Mod_game_156 rfl ?_
                obtain ⟨v38, e37, e36⟩ := ob1_some e36
                refine wa_ald d_Mod_game_158 sh_313 e37 ?_
                cases e36
                refine wp_goto 164 d_Mod_game_159 rfl ?_
                exact k34
        · replace h := ip h h118
          obtain ⟨v42, e43, h⟩ := ob1_some h
          have k41 : wp X (d + 3) f_Mod_game (0, 0) 136 [.ref 312, .int what_, .int all_, .int i_, .int (F_Mod_thingAt v26), .int v29, .int (all_ ^^^ (F_Mod_nimber v29))] [.int v42] (lay M) Q := by
            cases h
            exact wp_iret d_Mod_game_136 rfl rfl rfl hq
          refine wp_iload_n d_Mod_game_121 rfl rfl ?_
          refine wz_ne 135 d_Mod_game_122 rfl (fun h122 => ?_) (fun h122 => ?_)
          · replace e43 := inn e43 h122
            refine wp_iconst d_Mod_game_135 (v := nI 1) rfl ?_
            cases e43
            exact k41
          · replace e43 := ip e43 h122
            refine wp_aload_n d_Mod_game_125 rfl rfl ?_
            refine wl_getR d_Mod_game_126 lf_Mod_7 sh_312 rfl ?_
            refine wp_iload d_Mod_game_129 rfl ?_
            obtain ⟨v45, e44, e43⟩ := ob1_some e43
            refine wa_ald d_Mod_game_131 sh_313 e44 ?_
            cases e43
            refine wp_goto 136 d_Mod_game_132 rfl ?_
            exact k41
      obtain ⟨x46, e47, e17⟩ := ob1_some e17
      cases e17
      refine wp_aload_n d_Mod_game_65 rfl rfl ?_
      refine wp_iload_n d_Mod_game_66 rfl rfl ?_
      obtain ⟨v48, e49, e47⟩ := ob1_some e47
      refine wl_callV1 d_Mod_game_67 lc_Mod_isTaken lv_Mod_332 rfl sh_312 rfl rfl ⟨rfl, rfl⟩ ⟨by decide, by decide⟩ ?_
      refine s_Mod_isTaken (d := d) e49 ?_
      refine wc_ne 76 d_Mod_game_70 rfl (fun h70 => ?_) (fun h70 => ?_)
      · cases e47
        exact k24 _ _ _ (nb_t h70)
      · cases e47
        exact k22 _ _ _ (nb_f h70)
theorem s_Mod_game {what_ : Int32} {M : mM} {r : Int32} (h : F_Mod_game z what_ M = some r) (hq : Q (some (.int r)) (lay M)) : Sp X (d + 3) f_Mod_game [.ref 312, .int what_] (lay M) Q := by
  refine Sp_of (by decide) rfl (Nat.le_of_ble_eq_true rfl) ?_
  refine wp_aload_n d_Mod_game_0 rfl rfl ?_
  refine wp_iconst d_Mod_game_1 (v := nI 0) rfl ?_
  refine wl_putC d_Mod_game_2 lp_Mod_107 sh_312 rfl ⟨rfl, rfl⟩ ?_
  refine wp_aload_n d_Mod_game_5 rfl rfl ?_
  refine wp_iload_n d_Mod_game_6 rfl rfl ?_
  refine wp_iconst d_Mod_game_7 (v := nI 0) rfl ?_
  refine wp_iconst d_Mod_game_8 (v := nI 1) rfl ?_
  refine wl_callV3 d_Mod_game_9 lc_Mod_isIn lv_Mod_135 rfl sh_312 rfl rfl ⟨rfl, rfl⟩ ⟨by decide, by decide⟩ ?_
  refine s_Mod_isIn (d := d + 2) rfl ?_
  refine wc_ne 17 d_Mod_game_12 rfl (fun h12 => ?_) (fun h12 => ?_)
  · replace h := inn h (fun z => z h12)
    refine wp_iconst d_Mod_game_17 (v := nI 0) rfl ?_
    refine wp_istore_n d_Mod_game_18 rfl (by decide) ?_
    refine wp_iconst d_Mod_game_19 (v := nI 0) rfl ?_
    refine wp_istore_n d_Mod_game_20 rfl (by decide) ?_
    obtain ⟨all_15, e50, h⟩ := ob1_some h
    refine l_Mod_game_1 ?_ _ _ _ _ _ _ e50
    intro u3 u4 u5 u6
    refine wp_iconst d_Mod_game_57 (v := nI 0) rfl ?_
    refine wp_istore_n d_Mod_game_58 rfl (by decide) ?_
    refine l_Mod_game_2 hq ?_ _ _ _ _ _ h
    intro u3 u4 u5 u6 h
    refine wp_iconst d_Mod_game_171 (v := (-1)) rfl ?_
    cases h
    exact wp_iret d_Mod_game_172 rfl rfl rfl hq
  · replace h := ip h h12
    refine wp_iconst d_Mod_game_15 (v := (-1)) rfl ?_
    cases h
    exact wp_iret d_Mod_game_16 rfl rfl rfl hq
end S1421
