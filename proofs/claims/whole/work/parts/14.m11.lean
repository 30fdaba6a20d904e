/-! methods as functions: printed by program -/
section S1411
variable {X : mXs} {d z : Nat} {Q : Option Value → mH → Prop}
def F_Mod_isIn (v_ : Int32) (low_ : Int32) (high_ : Int32) : Bool :=
  decide ((¬ (v_ < low_) ∧ ¬ (high_ < v_)))
theorem s_Mod_isIn {v_ : Int32} {low_ : Int32} {high_ : Int32} {M : mM} {r : Bool} (h : F_Mod_isIn v_ low_ high_ = r) (hq : Q (some (.int (bI r))) (lay M)) : Sp X d f_Mod_isIn [.ref 312, .int v_, .int low_, .int high_] (lay M) Q := by
  refine Sp_of (by decide) rfl (Nat.le_of_ble_eq_true rfl) ?_
  have k1 : wp X d f_Mod_isIn (0, 0) 15 [.ref 312, .int v_, .int low_, .int high_] [.int (bI (decide ((¬ (v_ < low_) ∧ ¬ (high_ < v_)))))] (lay M) Q := by
    cases h
    exact wb_iret d_Mod_isIn_15 rfl rfl hq
  refine wp_iload_n d_Mod_isIn_0 rfl rfl ?_
  refine wp_iload_n d_Mod_isIn_1 rfl rfl ?_
  refine wq_icmp_lt 14 d_Mod_isIn_2 rfl (fun h2 => ?_) (fun h2 => ?_)
  · refine wp_iconst d_Mod_isIn_14 (v := nI 0) rfl ?_
    exact wj_f (fun z => (fun z => z h2) z.1) (k1)
  · refine wp_iload_n d_Mod_isIn_5 rfl rfl ?_
    refine wp_iload_n d_Mod_isIn_6 rfl rfl ?_
    refine wq_icmp_gt 14 d_Mod_isIn_7 rfl (fun h7 => ?_) (fun h7 => ?_)
    · refine wp_iconst d_Mod_isIn_14 (v := nI 0) rfl ?_
      exact wj_f (fun z => (fun z => z h7) z.2) (k1)
    · refine wp_iconst d_Mod_isIn_10 (v := nI 1) rfl ?_
      refine wp_goto 15 d_Mod_isIn_11 rfl ?_
      exact wj_t ⟨h2, h7⟩ (k1)
def F_Mod_within (v_ : Int32) (low_ : Int32) (high_ : Int32) : Int32 :=
  (if v_ < low_ then low_ else (if high_ < v_ then high_ else v_))
theorem s_Mod_within {v_ : Int32} {low_ : Int32} {high_ : Int32} {M : mM} {r : Int32} (h : F_Mod_within v_ low_ high_ = r) (hq : Q (some (.int r)) (lay M)) : Sp X d f_Mod_within [.ref 312, .int v_, .int low_, .int high_] (lay M) Q := by
  refine Sp_of (by decide) rfl (Nat.le_of_ble_eq_true rfl) ?_
  have k2 : wp X d f_Mod_within (0, 0) 19 [.ref 312, .int v_, .int low_, .int high_] [.int (if v_ < low_ then low_ else (if high_ < v_ then high_ else v_))] (lay M) Q := by
    cases h
    exact wp_iret d_Mod_within_19 rfl rfl rfl hq
  refine wp_iload_n d_Mod_within_0 rfl rfl ?_
  refine wp_iload_n d_Mod_within_1 rfl rfl ?_
  refine wq_icmp_ge 9 d_Mod_within_2 rfl (fun h2 => ?_) (fun h2 => ?_)
  · have k3 : wp X d f_Mod_within (0, 0) 19 [.ref 312, .int v_, .int low_, .int high_] [.int (if high_ < v_ then high_ else v_)] (lay M) Q := by
      exact wj_in h2 (k2)
    refine wp_iload_n d_Mod_within_9 rfl rfl ?_
    refine wp_iload_n d_Mod_within_10 rfl rfl ?_
    refine wq_icmp_le 18 d_Mod_within_11 rfl (fun h11 => ?_) (fun h11 => ?_)
    · refine wp_iload_n d_Mod_within_18 rfl rfl ?_
      exact wj_in h11 (k3)
    · refine wp_iload_n d_Mod_within_14 rfl rfl ?_
      refine wp_goto 19 d_Mod_within_15 rfl ?_
      exact wj_ip h11 (k3)
  · refine wp_iload_n d_Mod_within_5 rfl rfl ?_
    refine wp_goto 19 d_Mod_within_6 rfl ?_
    exact wj_ip h2 (k2)
def F_Mod_greater (a_ : Int32) (b_ : Int32) : Int32 :=
  (if b_ < a_ then a_ else b_)
theorem s_Mod_greater {a_ : Int32} {b_ : Int32} {M : mM} {r : Int32} (h : F_Mod_greater a_ b_ = r) (hq : Q (some (.int r)) (lay M)) : Sp X d f_Mod_greater [.ref 312, .int a_, .int b_] (lay M) Q := by
  refine Sp_of (by decide) rfl (Nat.le_of_ble_eq_true rfl) ?_
  have k1 : wp X d f_Mod_greater (0, 0) 10 [.ref 312, .int a_, .int b_] [.int (if b_ < a_ then a_ else b_)] (lay M) Q := by
    cases h
    exact wp_iret d_Mod_greater_10 rfl rfl rfl hq
  refine wp_iload_n d_Mod_greater_0 rfl rfl ?_
  refine wp_iload_n d_Mod_greater_1 rfl rfl ?_
  refine wq_icmp_le 9 d_Mod_greater_2 rfl (fun h2 => ?_) (fun h2 => ?_)
  · refine wp_iload_n d_Mod_greater_9 rfl rfl ?_
    exact wj_in h2 (k1)
  · refine wp_iload_n d_Mod_greater_5 rfl rfl ?_
    refine wp_goto 10 d_Mod_greater_6 rfl ?_
    exact wj_ip h2 (k1)
def F_Mod_lesser (a_ : Int32) (b_ : Int32) : Int32 :=
  (if a_ < b_ then a_ else b_)
theorem s_Mod_lesser {a_ : Int32} {b_ : Int32} {M : mM} {r : Int32} (h : F_Mod_lesser a_ b_ = r) (hq : Q (some (.int r)) (lay M)) : Sp X d f_Mod_lesser [.ref 312, .int a_, .int b_] (lay M) Q := by
  refine Sp_of (by decide) rfl (Nat.le_of_ble_eq_true rfl) ?_
  have k1 : wp X d f_Mod_lesser (0, 0) 10 [.ref 312, .int a_, .int b_] [.int (if a_ < b_ then a_ else b_)] (lay M) Q := by
    cases h
    exact wp_iret d_Mod_lesser_10 rfl rfl rfl hq
  refine wp_iload_n d_Mod_lesser_0 rfl rfl ?_
  refine wp_iload_n d_Mod_lesser_1 rfl rfl ?_
  refine wq_icmp_ge 9 d_Mod_lesser_2 rfl (fun h2 => ?_) (fun h2 => ?_)
  · refine wp_iload_n d_Mod_lesser_9 rfl rfl ?_
    exact wj_in h2 (k1)
  · refine wp_iload_n d_Mod_lesser_5 rfl rfl ?_
    refine wp_goto 10 d_Mod_lesser_6 rfl ?_
    exact wj_ip h2 (k1)
def F_Mod_apart (a_ : Int32) (b_ : Int32) : Int32 :=
  (if b_ < a_ then a_ - b_ else b_ - a_)
theorem s_Mod_apart {a_ : Int32} {b_ : Int32} {M : mM} {r : Int32} (h : F_Mod_apart a_ b_ = r) (hq : Q (some (.int r)) (lay M)) : Sp X d f_Mod_apart [.ref 312, .int a_, .int b_] (lay M) Q := by
  refine Sp_of (by decide) rfl (Nat.le_of_ble_eq_true rfl) ?_
  have k1 : wp X d f_Mod_apart (0, 0) 14 [.ref 312, .int a_, .int b_] [.int (if b_ < a_ then a_ - b_ else b_ - a_)] (lay M) Q := by
    cases h
    exact wp_iret d_Mod_apart_14 rfl rfl rfl hq
  refine wp_iload_n d_Mod_apart_0 rfl rfl ?_
  refine wp_iload_n d_Mod_apart_1 rfl rfl ?_
  refine wq_icmp_le 11 d_Mod_apart_2 rfl (fun h2 => ?_) (fun h2 => ?_)
  · refine wp_iload_n d_Mod_apart_11 rfl rfl ?_
    refine wp_iload_n d_Mod_apart_12 rfl rfl ?_
    refine wp_isub d_Mod_apart_13 ?_
    exact wj_in h2 (k1)
  · refine wp_iload_n d_Mod_apart_5 rfl rfl ?_
    refine wp_iload_n d_Mod_apart_6 rfl rfl ?_
    refine wp_isub d_Mod_apart_7 ?_
    refine wp_goto 14 d_Mod_apart_8 rfl ?_
    exact wj_ip h2 (k1)
def F_Mod_added (a_ : Int32) (b_ : Int32) : Int32 :=
  (if ¬ (a_ < ((nI 1000000007) - b_)) then a_ - ((nI 1000000007) - b_) else a_ + b_)
theorem s_Mod_added {a_ : Int32} {b_ : Int32} {M : mM} {r : Int32} (h : F_Mod_added a_ b_ = r) (hq : Q (some (.int r)) (lay M)) : Sp X d f_Mod_added [.ref 312, .int a_, .int b_] (lay M) Q := by
  refine Sp_of (by decide) rfl (Nat.le_of_ble_eq_true rfl) ?_
  have k1 : wp X d f_Mod_added (0, 0) 20 [.ref 312, .int a_, .int b_] [.int (if ¬ (a_ < ((nI 1000000007) - b_)) then a_ - ((nI 1000000007) - b_) else a_ + b_)] (lay M) Q := by
    cases h
    exact wp_iret d_Mod_added_20 rfl rfl rfl hq
  refine wp_iload_n d_Mod_added_0 rfl rfl ?_
  refine wp_ldc (v := nI 1000000007) d_Mod_added_1 lk_Mod_110 ?_
  refine wp_iload_n d_Mod_added_3 rfl rfl ?_
  refine wp_isub d_Mod_added_4 ?_
  refine wq_icmp_lt 17 d_Mod_added_5 rfl (fun h5 => ?_) (fun h5 => ?_)
  · refine wp_iload_n d_Mod_added_17 rfl rfl ?_
    refine wp_iload_n d_Mod_added_18 rfl rfl ?_
    refine wp_iadd d_Mod_added_19 ?_
    exact wj_in (fun z => z h5) (k1)
  · refine wp_iload_n d_Mod_added_8 rfl rfl ?_
    refine wp_ldc (v := nI 1000000007) d_Mod_added_9 lk_Mod_110 ?_
    refine wp_iload_n d_Mod_added_11 rfl rfl ?_
    refine wp_isub d_Mod_added_12 ?_
    refine wp_isub d_Mod_added_13 ?_
    refine wp_goto 20 d_Mod_added_14 rfl ?_
    exact wj_ip h5 (k1)
def L_Mod_onesOf_1 (z : Nat) : Nat → Int32 → Int32 → Option (Int32)
  | 0, _, _ => none
  | n + 1, n_, v_ =>
    if ¬ (v_ = (nI 0)) then
    L_Mod_onesOf_1 z n (n_ + (nI 1)) (v_ &&& (v_ - (nI 1)))
    else
    some (n_)
def F_Mod_onesOf (z : Nat) (set_ : Int32) : Option (Int32) :=
  ob1 (L_Mod_onesOf_1 z z (nI 0) set_) fun n_1 =>
  some (n_1)
theorem l_Mod_onesOf_1 {M : mM}  {q1 : Value} {n_r : Int32} (K : ∀ u3 : Value, wp X d f_Mod_onesOf (0, 0) 21 [.ref 312, q1, .int n_r, u3] [] (lay M) Q) : ∀ (n : Nat) (n_ : Int32) (v_ : Int32), L_Mod_onesOf_1 z n n_ v_ = some (n_r) → wp X d f_Mod_onesOf (0, 0) 4 [.ref 312, q1, .int n_, .int v_] [] (lay M) Q := by
  intro n
  induction n with
  | zero => intro n_ v_ h; exact nn h
  | succ n ih =>
    intro n_ v_ h
    refine wp_iload_n d_Mod_onesOf_4 rfl rfl ?_
    refine wz_eq 21 d_Mod_onesOf_5 rfl (fun h5 => ?_) (fun h5 => ?_)
    · replace h := inn h (fun z => z h5)
      cases h
      exact K _
    · replace h := ip h h5
      refine wp_iload_n d_Mod_onesOf_8 rfl rfl ?_
      refine wp_iconst d_Mod_onesOf_9 (v := nI 1) rfl ?_
      refine wp_iadd d_Mod_onesOf_10 ?_
      refine wp_istore_n d_Mod_onesOf_11 rfl (by decide) ?_
      refine wp_iload_n d_Mod_onesOf_12 rfl rfl ?_
      refine wp_iload_n d_Mod_onesOf_13 rfl rfl ?_
      refine wp_iconst d_Mod_onesOf_14 (v := nI 1) rfl ?_
      refine wp_isub d_Mod_onesOf_15 ?_
      refine wp_iand d_Mod_onesOf_16 ?_
      refine wp_istore_n d_Mod_onesOf_17 rfl (by decide) ?_
      refine wp_goto 4 d_Mod_onesOf_18 rfl ?_
      exact ih _ _ h
theorem s_Mod_onesOf {set_ : Int32} {M : mM} {r : Int32} (h : F_Mod_onesOf z set_ = some r) (hq : Q (some (.int r)) (lay M)) : Sp X d f_Mod_onesOf [.ref 312, .int set_] (lay M) Q := by
  refine Sp_of (by decide) rfl (Nat.le_of_ble_eq_true rfl) ?_
  refine wp_iconst d_Mod_onesOf_0 (v := nI 0) rfl ?_
  refine wp_istore_n d_Mod_onesOf_1 rfl (by decide) ?_
  refine wp_iload_n d_Mod_onesOf_2 rfl rfl ?_
  refine wp_istore_n d_Mod_onesOf_3 rfl (by decide) ?_
  obtain ⟨n_1, e2, h⟩ := ob1_some h
  refine l_Mod_onesOf_1 ?_ _ _ _ e2
  intro u3
  refine wp_iload_n d_Mod_onesOf_21 rfl rfl ?_
  cases h
  exact wp_iret d_Mod_onesOf_22 rfl rfl rfl hq
def F_Mod_has (set_ : Int32) (k_ : Int32) : Bool :=
  decide (((jshr set_ k_) &&& (nI 1)) = (nI 1))
theorem s_Mod_has {set_ : Int32} {k_ : Int32} {M : mM} {r : Bool} (h : F_Mod_has set_ k_ = r) (hq : Q (some (.int (bI r))) (lay M)) : Sp X d f_Mod_has [.ref 312, .int set_, .int k_] (lay M) Q := by
  refine Sp_of (by decide) rfl (Nat.le_of_ble_eq_true rfl) ?_
  have k1 : wp X d f_Mod_has (0, 0) 14 [.ref 312, .int set_, .int k_] [.int (bI (decide (((jshr set_ k_) &&& (nI 1)) = (nI 1))))] (lay M) Q := by
    cases h
    exact wb_iret d_Mod_has_14 rfl rfl hq
  refine wp_iload_n d_Mod_has_0 rfl rfl ?_
  refine wp_iload_n d_Mod_has_1 rfl rfl ?_
  refine wp_ishr d_Mod_has_2 ?_
  refine wp_iconst d_Mod_has_3 (v := nI 1) rfl ?_
  refine wp_iand d_Mod_has_4 ?_
  refine wp_iconst d_Mod_has_5 (v := nI 1) rfl ?_
  refine wq_icmp_ne 13 d_Mod_has_6 rfl (fun h6 => ?_) (fun h6 => ?_)
  · refine wp_iconst d_Mod_has_13 (v := nI 0) rfl ?_
    exact wj_f h6 (k1)
  · refine wp_iconst d_Mod_has_9 (v := nI 1) rfl ?_
    refine wp_goto 14 d_Mod_has_10 rfl ?_
    exact wj_t h6 (k1)
def L_Mod_keepsAhead_1 (z : Nat) : Nat → Int32 → mM → Option (mM)
  | 0, _, _ => none
  | n + 1, k_, M =>
    if k_ < (nI 270) then
    ob1 (ra M 313 270 k_) fun v13 =>
    ob1 (wa M 314 1620 (((nI 270) * (M 312 3)) + k_) v13) fun M15 =>
    L_Mod_keepsAhead_1 z n (k_ + nI 1) M15
    else
    some (M)
def L_Mod_keepsAhead_2 (z : Nat) : Nat → Int32 → mM → Option (mM)
  | 0, _, _ => none
  | n + 1, k_, M =>
    if k_ < ((nI 270) * (M 312 3)) then
    ob1 (ra M 314 1620 (k_ + (nI 270))) fun v23 =>
    ob1 (wa M 314 1620 k_ v23) fun M25 =>
    L_Mod_keepsAhead_2 z n (k_ + nI 1) M25
    else
    some (M)
def F_Mod_keepsAhead (z : Nat) (M : mM) : Option mM :=
  ob1 (if (M 312 3) = (nI 6) then
  ob1 (some (up M 312 3 ((M 312 3) - (nI 1)))) fun M20 =>
  ob1 (L_Mod_keepsAhead_2 z z (nI 0) M20) fun M26 =>
  some (M26)
  else
  some (M)) fun M10 =>
  ob1 (L_Mod_keepsAhead_1 z z (nI 0) M10) fun M16 =>
  ob1 (some (up M16 312 3 ((M16 312 3) + (nI 1)))) fun M17 =>
  some M17
theorem l_Mod_keepsAhead_1  {N' : mM} (K : ∀ u1 : Value, wp X d f_Mod_keepsAhead (0, 0) 91 [.ref 312, u1] [] (lay N') Q) : ∀ (n : Nat) (k_ : Int32) (M : mM), L_Mod_keepsAhead_1 z n k_ M = some (N') → wp X d f_Mod_keepsAhead (0, 0) 57 [.ref 312, .int k_] [] (lay M) Q := by
  intro n
  induction n with
  | zero => intro k_ M h; exact nn h
  | succ n ih =>
    intro k_ M h
    refine wp_iload_n d_Mod_keepsAhead_57 rfl rfl ?_
    refine wp_sipush d_Mod_keepsAhead_58 (v := nI 270) rfl ?_
    refine wq_icmp_ge 91 d_Mod_keepsAhead_61 rfl (fun h61 => ?_) (fun h61 => ?_)
    · replace h := inn h h61
      cases h
      exact K _
    · replace h := ip h h61
      refine wp_aload_n d_Mod_keepsAhead_64 rfl rfl ?_
      refine wl_getR d_Mod_keepsAhead_65 lf_Mod_13 sh_312 rfl ?_
      refine wp_sipush d_Mod_keepsAhead_68 (v := nI 270) rfl ?_
      refine wp_aload_n d_Mod_keepsAhead_71 rfl rfl ?_
      refine wl_getI d_Mod_keepsAhead_72 lf_Mod_111 sh_312 rfl rfl ?_
      refine wp_imul d_Mod_keepsAhead_75 ?_
      refine wp_iload_n d_Mod_keepsAhead_76 rfl rfl ?_
      refine wp_iadd d_Mod_keepsAhead_77 ?_
      refine wp_aload_n d_Mod_keepsAhead_78 rfl rfl ?_
      refine wl_getR d_Mod_keepsAhead_79 lf_Mod_7 sh_312 rfl ?_
      refine wp_iload_n d_Mod_keepsAhead_82 rfl rfl ?_
      obtain ⟨v13, e12, h⟩ := ob1_some h
      refine wa_ald d_Mod_keepsAhead_83 sh_313 e12 ?_
      obtain ⟨M15, e14, h⟩ := ob1_some h
      refine wa_ast d_Mod_keepsAhead_84 sh_314 e14 ?_
      refine wp_iinc d_Mod_keepsAhead_85 (v := k_ + nI 1) rfl rfl ?_
      refine wp_goto 57 d_Mod_keepsAhead_88 rfl ?_
      exact ih _ _ h
theorem l_Mod_keepsAhead_2  {N' : mM} (K : ∀ u1 : Value, wp X d f_Mod_keepsAhead (0, 0) 55 [.ref 312, u1] [] (lay N') Q) : ∀ (n : Nat) (k_ : Int32) (M : mM), L_Mod_keepsAhead_2 z n k_ M = some (N') → wp X d f_Mod_keepsAhead (0, 0) 21 [.ref 312, .int k_] [] (lay M) Q := by
  intro n
  induction n with
  | zero => intro k_ M h; exact nn h
  | succ n ih =>
    intro k_ M h
    refine wp_iload_n d_Mod_keepsAhead_21 rfl rfl ?_
    refine wp_sipush d_Mod_keepsAhead_22 (v := nI 270) rfl ?_
    refine wp_aload_n d_Mod_keepsAhead_25 rfl rfl ?_
    refine wl_getI d_Mod_keepsAhead_26 lf_Mod_111 sh_312 rfl rfl ?_
    refine wp_imul d_Mod_keepsAhead_29 ?_
    refine wq_icmp_ge 55 d_Mod_keepsAhead_30 rfl (fun h30 => ?_) (fun h30 => ?_)
    · replace h := inn h h30
      cases h
      exact K _
    · replace h := ip h h30
      refine wp_aload_n d_Mod_keepsAhead_33 rfl rfl ?_
      refine wl_getR d_Mod_keepsAhead_34 lf_Mod_13 sh_312 rfl ?_
      refine wp_iload_n d_Mod_keepsAhead_37 rfl rfl ?_
      refine wp_aload_n d_Mod_keepsAhead_38 rfl rfl ?_
      refine wl_getR d_Mod_keepsAhead_39 lf_Mod_13 sh_312 rfl ?_
      refine wp_iload_n d_Mod_keepsAhead_42 rfl rfl ?_
      refine wp_sipush d_Mod_keepsAhead_43 (v := nI 270) rfl ?_
      refine wp_iadd d_Mod_keepsAhead_46 ?_
      obtain ⟨v23, e22, h⟩ := ob1_some h
      refine wa_ald d_Mod_keepsAhead_47 sh_314 e22 ?_
      obtain ⟨M25, e24, h⟩ := ob1_some h
      refine wa_ast d_Mod_keepsAhead_48 sh_314 e24 ?_
      refine wp_iinc d_Mod_keepsAhead_49 (v := k_ + nI 1) rfl rfl ?_
      refine wp_goto 21 d_Mod_keepsAhead_52 rfl ?_
      exact ih _ _ h
theorem s_Mod_keepsAhead {M : mM} {M' : mM} (h : F_Mod_keepsAhead z M = some M') (hq : Q none (lay M')) : Sp X d f_Mod_keepsAhead [.ref 312] (lay M) Q := by
  refine Sp_of (by decide) rfl (Nat.le_of_ble_eq_true rfl) ?_
  obtain ⟨M10, e11, h⟩ := ob1_some h
  have k9 : ∀ u1 : Value, wp X d f_Mod_keepsAhead (0, 0) 55 [.ref 312, u1] [] (lay M10) Q := by
    intro u1
    refine wp_iconst d_Mod_keepsAhead_55 (v := nI 0) rfl ?_
    refine wp_istore_n d_Mod_keepsAhead_56 rfl (by decide) ?_
    obtain ⟨M16, e19, h⟩ := ob1_some h
    refine l_Mod_keepsAhead_1 ?_ _ _ _ e19
    intro u1
    refine wp_aload_n d_Mod_keepsAhead_91 rfl rfl ?_
    refine wp_aload_n d_Mod_keepsAhead_92 rfl rfl ?_
    refine wl_getI d_Mod_keepsAhead_93 lf_Mod_111 sh_312 rfl rfl ?_
    refine wp_iconst d_Mod_keepsAhead_96 (v := nI 1) rfl ?_
    refine wp_iadd d_Mod_keepsAhead_97 ?_
    refine wl_put d_Mod_keepsAhead_98 lp_Mod_111 sh_312 rfl ⟨rfl, rfl⟩ ?_
    obtain ⟨M17, e18, h⟩ := ob1_some h
    refine wx_M e18 ?_
    cases h
    exact wp_ret d_Mod_keepsAhead_101 rfl rfl hq
  refine wp_aload_n d_Mod_keepsAhead_0 rfl rfl ?_
  refine wl_getI d_Mod_keepsAhead_1 lf_Mod_111 sh_312 rfl rfl ?_
  refine wp_bipush d_Mod_keepsAhead_4 (v := nI 6) rfl ?_
  refine wq_icmp_ne 55 d_Mod_keepsAhead_6 rfl (fun h6 => ?_) (fun h6 => ?_)
  · replace e11 := inn e11 h6
    cases e11
    exact k9 _
  · replace e11 := ip e11 h6
    refine wp_aload_n d_Mod_keepsAhead_9 rfl rfl ?_
    refine wp_aload_n d_Mod_keepsAhead_10 rfl rfl ?_
    refine wl_getI d_Mod_keepsAhead_11 lf_Mod_111 sh_312 rfl rfl ?_
    refine wp_iconst d_Mod_keepsAhead_14 (v := nI 1) rfl ?_
    refine wp_isub d_Mod_keepsAhead_15 ?_
    refine wl_put d_Mod_keepsAhead_16 lp_Mod_111 sh_312 rfl ⟨rfl, rfl⟩ ?_
    obtain ⟨M20, e21, e11⟩ := ob1_some e11
    refine wx_M e21 ?_
    refine wp_iconst d_Mod_keepsAhead_19 (v := nI 0) rfl ?_
    refine wp_istore_n d_Mod_keepsAhead_20 rfl (by decide) ?_
    obtain ⟨M26, e27, e11⟩ := ob1_some e11
    refine l_Mod_keepsAhead_2 ?_ _ _ _ e27
    intro u1
    cases e11
    exact k9 _
def L_Mod_undo_1 (z : Nat) : Nat → Int32 → mM → Option (mM)
  | 0, _, _ => none
  | n + 1, k_, M =>
    if k_ < (nI 270) then
    ob1 (ra M 314 1620 (((nI 270) * (M 312 3)) + k_)) fun v4 =>
    ob1 (wa M 313 270 k_ v4) fun M6 =>
    L_Mod_undo_1 z n (k_ + nI 1) M6
    else
    some (M)
def F_Mod_undo (z : Nat) (M : mM) : Option (Bool × mM) :=
  if (M 312 3) = (nI 0) then
  some (false, M)
  else
  ob1 (some (up M 312 3 ((M 312 3) - (nI 1)))) fun M1 =>
  ob1 (L_Mod_undo_1 z z (nI 0) M1) fun M7 =>
  some (true, M7)
theorem l_Mod_undo_1  {N' : mM} (K : ∀ u1 : Value, wp X d f_Mod_undo (0, 0) 60 [.ref 312, u1] [] (lay N') Q) : ∀ (n : Nat) (k_ : Int32) (M : mM), L_Mod_undo_1 z n k_ M = some (N') → wp X d f_Mod_undo (0, 0) 26 [.ref 312, .int k_] [] (lay M) Q := by
  intro n
  induction n with
  | zero => intro k_ M h; exact nn h
  | succ n ih =>
    intro k_ M h
    refine wp_iload_n d_Mod_undo_26 rfl rfl ?_
    refine wp_sipush d_Mod_undo_27 (v := nI 270) rfl ?_
    refine wq_icmp_ge 60 d_Mod_undo_30 rfl (fun h30 => ?_) (fun h30 => ?_)
    · replace h := inn h h30
      cases h
      exact K _
    · replace h := ip h h30
      refine wp_aload_n d_Mod_undo_33 rfl rfl ?_
      refine wl_getR d_Mod_undo_34 lf_Mod_7 sh_312 rfl ?_
      refine wp_iload_n d_Mod_undo_37 rfl rfl ?_
      refine wp_aload_n d_Mod_undo_38 rfl rfl ?_
      refine wl_getR d_Mod_undo_39 lf_Mod_13 sh_312 rfl ?_
      refine wp_sipush d_Mod_undo_42 (v := nI 270) rfl ?_
      refine wp_aload_n d_Mod_undo_45 rfl rfl ?_
      refine wl_getI d_Mod_undo_46 lf_Mod_111 sh_312 rfl rfl ?_
      refine wp_imul d_Mod_undo_49 ?_
      refine wp_iload_n d_Mod_undo_50 rfl rfl ?_
      refine wp_iadd d_Mod_undo_51 ?_
      obtain ⟨v4, e3, h⟩ := ob1_some h
      refine wa_ald d_Mod_undo_52 sh_314 e3 ?_
      obtain ⟨M6, e5, h⟩ := ob1_some h
      refine wa_ast d_Mod_undo_53 sh_313 e5 ?_
      refine wp_iinc d_Mod_undo_54 (v := k_ + nI 1) rfl rfl ?_
      refine wp_goto 26 d_Mod_undo_57 rfl ?_
      exact ih _ _ h
theorem s_Mod_undo {M : mM} {r : Bool} {M' : mM} (h : F_Mod_undo z M = some (r, M')) (hq : Q (some (.int (bI r))) (lay M')) : Sp X d f_Mod_undo [.ref 312] (lay M) Q := by
  refine Sp_of (by decide) rfl (Nat.le_of_ble_eq_true rfl) ?_
  refine wp_aload_n d_Mod_undo_0 rfl rfl ?_
  refine wp_iconst d_Mod_undo_1 (v := nI 0) rfl ?_
  refine wl_putC d_Mod_undo_2 lp_Mod_107 sh_312 rfl ⟨rfl, rfl⟩ ?_
  refine wp_aload_n d_Mod_undo_5 rfl rfl ?_
  refine wl_getI d_Mod_undo_6 lf_Mod_111 sh_312 rfl rfl ?_
  refine wz_ne 14 d_Mod_undo_9 rfl (fun h9 => ?_) (fun h9 => ?_)
  · replace h := inn h h9
    refine wp_aload_n d_Mod_undo_14 rfl rfl ?_
    refine wp_aload_n d_Mod_undo_15 rfl rfl ?_
    refine wl_getI d_Mod_undo_16 lf_Mod_111 sh_312 rfl rfl ?_
    refine wp_iconst d_Mod_undo_19 (v := nI 1) rfl ?_
    refine wp_isub d_Mod_undo_20 ?_
    refine wl_put d_Mod_undo_21 lp_Mod_111 sh_312 rfl ⟨rfl, rfl⟩ ?_
    obtain ⟨M1, e2, h⟩ := ob1_some h
    refine wx_M e2 ?_
    refine wp_iconst d_Mod_undo_24 (v := nI 0) rfl ?_
    refine wp_istore_n d_Mod_undo_25 rfl (by decide) ?_
    obtain ⟨M7, e8, h⟩ := ob1_some h
    refine l_Mod_undo_1 ?_ _ _ _ e8
    intro u1
    refine wp_iconst d_Mod_undo_60 (v := bI true) rfl ?_
    cases h
    exact wb_iret d_Mod_undo_61 rfl rfl hq
  · replace h := ip h h9
    refine wp_iconst d_Mod_undo_12 (v := bI false) rfl ?_
    cases h
    exact wb_iret d_Mod_undo_13 rfl rfl hq
def L_Mod_thinks_1 (z : Nat) : Nat → Int32 → mM → Option (mM)
  | 0, _, _ => none
  | n + 1, k_, M =>
    if k_ < (nI 270) then
    ob1 (ra M 313 270 k_) fun v2 =>
    ob1 (wa M 315 270 k_ v2) fun M4 =>
    L_Mod_thinks_1 z n (k_ + nI 1) M4
    else
    some (M)
def F_Mod_thinks (z : Nat) (M : mM) : Option mM :=
  ob1 (L_Mod_thinks_1 z z (nI 0) M) fun M5 =>
  ob1 (some (up M5 312 5 (bI true))) fun M6 =>
  some M6
theorem l_Mod_thinks_1  {N' : mM} (K : ∀ u1 : Value, wp X d f_Mod_thinks (0, 0) 27 [.ref 312, u1] [] (lay N') Q) : ∀ (n : Nat) (k_ : Int32) (M : mM), L_Mod_thinks_1 z n k_ M = some (N') → wp X d f_Mod_thinks (0, 0) 2 [.ref 312, .int k_] [] (lay M) Q := by
  intro n
  induction n with
  | zero => intro k_ M h; exact nn h
  | succ n ih =>
    intro k_ M h
    refine wp_iload_n d_Mod_thinks_2 rfl rfl ?_
    refine wp_sipush d_Mod_thinks_3 (v := nI 270) rfl ?_
    refine wq_icmp_ge 27 d_Mod_thinks_6 rfl (fun h6 => ?_) (fun h6 => ?_)
    · replace h := inn h h6
      cases h
      exact K _
    · replace h := ip h h6
      refine wp_aload_n d_Mod_thinks_9 rfl rfl ?_
      refine wl_getR d_Mod_thinks_10 lf_Mod_16 sh_312 rfl ?_
      refine wp_iload_n d_Mod_thinks_13 rfl rfl ?_
      refine wp_aload_n d_Mod_thinks_14 rfl rfl ?_
      refine wl_getR d_Mod_thinks_15 lf_Mod_7 sh_312 rfl ?_
      refine wp_iload_n d_Mod_thinks_18 rfl rfl ?_
      obtain ⟨v2, e1, h⟩ := ob1_some h
      refine wa_ald d_Mod_thinks_19 sh_313 e1 ?_
      obtain ⟨M4, e3, h⟩ := ob1_some h
      refine wa_ast d_Mod_thinks_20 sh_315 e3 ?_
      refine wp_iinc d_Mod_thinks_21 (v := k_ + nI 1) rfl rfl ?_
      refine wp_goto 2 d_Mod_thinks_24 rfl ?_
      exact ih _ _ h
theorem s_Mod_thinks {M : mM} {M' : mM} (h : F_Mod_thinks z M = some M') (hq : Q none (lay M')) : Sp X d f_Mod_thinks [.ref 312] (lay M) Q := by
  refine Sp_of (by decide) rfl (Nat.le_of_ble_eq_true rfl) ?_
  refine wp_iconst d_Mod_thinks_0 (v := nI 0) rfl ?_
  refine wp_istore_n d_Mod_thinks_1 rfl (by decide) ?_
  obtain ⟨M5, e8, h⟩ := ob1_some h
  refine l_Mod_thinks_1 ?_ _ _ _ e8
  intro u1
  refine wp_aload_n d_Mod_thinks_27 rfl rfl ?_
  refine wp_iconst d_Mod_thinks_28 (v := bI true) rfl ?_
  refine wl_put d_Mod_thinks_29 lp_Mod_114 sh_312 rfl (bI_fits _) ?_
  obtain ⟨M6, e7, h⟩ := ob1_some h
  refine wx_M e7 ?_
  cases h
  exact wp_ret d_Mod_thinks_32 rfl rfl hq
def L_Mod_endsThought_1 (z : Nat) : Nat → Int32 → mM → Option (mM)
  | 0, _, _ => none
  | n + 1, k_, M =>
    if k_ < (nI 270) then
    ob1 (ra M 315 270 k_) fun v2 =>
    ob1 (wa M 313 270 k_ v2) fun M4 =>
    L_Mod_endsThought_1 z n (k_ + nI 1) M4
    else
    some (M)
def F_Mod_endsThought (z : Nat) (M : mM) : Option mM :=
  ob1 (L_Mod_endsThought_1 z z (nI 0) M) fun M5 =>
  ob1 (some (up M5 312 5 (bI false))) fun M6 =>
  some M6
theorem l_Mod_endsThought_1  {N' : mM} (K : ∀ u1 : Value, wp X d f_Mod_endsThought (0, 0) 27 [.ref 312, u1] [] (lay N') Q) : ∀ (n : Nat) (k_ : Int32) (M : mM), L_Mod_endsThought_1 z n k_ M = some (N') → wp X d f_Mod_endsThought (0, 0) 2 [.ref 312, .int k_] [] (lay M) Q := by
  intro n
  induction n with
  | zero => intro k_ M h; exact nn h
  | succ n ih =>
    intro k_ M h
    refine wp_iload_n d_Mod_endsThought_2 rfl rfl ?_
    refine wp_sipush d_Mod_endsThought_3 (v := nI 270) rfl ?_
    refine wq_icmp_ge 27 d_Mod_endsThought_6 rfl (fun h6 => ?_) (fun h6 => ?_)
    · replace h := inn h h6
      cases h
      exact K _
    · replace h := ip h h6
      refine wp_aload_n d_Mod_endsThought_9 rfl rfl ?_
      refine wl_getR d_Mod_endsThought_10 lf_Mod_7 sh_312 rfl ?_
      refine wp_iload_n d_Mod_endsThought_13 rfl rfl ?_
      refine wp_aload_n d_Mod_endsThought_14 rfl rfl ?_
      refine wl_getR d_Mod_endsThought_15 lf_Mod_16 sh_312 rfl ?_
      refine wp_iload_n d_Mod_endsThought_18 rfl rfl ?_
      obtain ⟨v2, e1, h⟩ := ob1_some h
      refine wa_ald d_Mod_endsThought_19 sh_315 e1 ?_
      obtain ⟨M4, e3, h⟩ := ob1_some h
      refine wa_ast d_Mod_endsThought_20 sh_313 e3 ?_
      refine wp_iinc d_Mod_endsThought_21 (v := k_ + nI 1) rfl rfl ?_
      refine wp_goto 2 d_Mod_endsThought_24 rfl ?_
      exact ih _ _ h
theorem s_Mod_endsThought {M : mM} {M' : mM} (h : F_Mod_endsThought z M = some M') (hq : Q none (lay M')) : Sp X d f_Mod_endsThought [.ref 312] (lay M) Q := by
  refine Sp_of (by decide) rfl (Nat.le_of_ble_eq_true rfl) ?_
  refine wp_iconst d_Mod_endsThought_0 (v := nI 0) rfl ?_
  refine wp_istore_n d_Mod_endsThought_1 rfl (by decide) ?_
  obtain ⟨M5, e8, h⟩ := ob1_some h
  refine l_Mod_endsThought_1 ?_ _ _ _ e8
  intro u1
  refine wp_aload_n d_Mod_endsThought_27 rfl rfl ?_
  refine wp_iconst d_Mod_endsThought_28 (v := bI false) rfl ?_
  refine wl_put d_Mod_endsThought_29 lp_Mod_114 sh_312 rfl (bI_fits _) ?_
  obtain ⟨M6, e7, h⟩ := ob1_some h
  refine wx_M e7 ?_
  cases h
  exact wp_ret d_Mod_endsThought_32 rfl rfl hq
def F_Mod_state (v_ : Int32) (M : mM) : Option (Int32 × mM) :=
  ob1 (ra M 313 270 (nI 1)) fun v2 =>
  ob1 (wa M 313 270 (nI 1) v_) fun M4 =>
  ob1 (some (up M4 312 3 (nI 0))) fun M5 =>
  some (v2, M5)
theorem s_Mod_state {v_ : Int32} {M : mM} {r : Int32} {M' : mM} (h : F_Mod_state v_ M = some (r, M')) (hq : Q (some (.int r)) (lay M')) : Sp X d f_Mod_state [.ref 312, .int v_] (lay M) Q := by
  refine Sp_of (by decide) rfl (Nat.le_of_ble_eq_true rfl) ?_
  refine wp_aload_n d_Mod_state_0 rfl rfl ?_
  refine wp_iconst d_Mod_state_1 (v := nI 0) rfl ?_
  refine wl_putC d_Mod_state_2 lp_Mod_107 sh_312 rfl ⟨rfl, rfl⟩ ?_
  refine wp_aload_n d_Mod_state_5 rfl rfl ?_
  refine wl_getR d_Mod_state_6 lf_Mod_7 sh_312 rfl ?_
  refine wp_iconst d_Mod_state_9 (v := nI 1) rfl ?_
  obtain ⟨v2, e1, h⟩ := ob1_some h
  refine wa_ald d_Mod_state_10 sh_313 e1 ?_
  refine wp_istore_n d_Mod_state_11 rfl (by decide) ?_
  refine wp_aload_n d_Mod_state_12 rfl rfl ?_
  refine wl_getR d_Mod_state_13 lf_Mod_7 sh_312 rfl ?_
  refine wp_iconst d_Mod_state_16 (v := nI 1) rfl ?_
  refine wp_iload_n d_Mod_state_17 rfl rfl ?_
  obtain ⟨M4, e3, h⟩ := ob1_some h
  refine wa_ast d_Mod_state_18 sh_313 e3 ?_
  refine wp_aload_n d_Mod_state_19 rfl rfl ?_
  refine wp_iconst d_Mod_state_20 (v := nI 0) rfl ?_
  refine wl_put d_Mod_state_21 lp_Mod_111 sh_312 rfl ⟨rfl, rfl⟩ ?_
  obtain ⟨M5, e6, h⟩ := ob1_some h
  refine wx_M e6 ?_
  refine wp_iload_n d_Mod_state_24 rfl rfl ?_
  cases h
  exact wp_iret d_Mod_state_25 rfl rfl rfl hq
def F_Mod_draw (m_ : Int32) (M : mM) : Option (Int32 × mM) :=
  ob1 (ra M 313 270 (nI 1)) fun v2 =>
  ob1 (some (((nI 1664525) * v2) + (nI 1013904223))) fun v3 =>
  ob1 (wa M 313 270 (nI 1) v3) fun M6 =>
  ob1 (ra M6 313 270 (nI 1)) fun v8 =>
  ob1 (nz m_ (jrem (jushr v8 (nI 8)) m_)) fun v9 =>
  some (v9, M6)
theorem s_Mod_draw {m_ : Int32} {M : mM} {r : Int32} {M' : mM} (h : F_Mod_draw m_ M = some (r, M')) (hq : Q (some (.int r)) (lay M')) : Sp X d f_Mod_draw [.ref 312, .int m_] (lay M) Q := by
  refine Sp_of (by decide) rfl (Nat.le_of_ble_eq_true rfl) ?_
  refine wp_aload_n d_Mod_draw_0 rfl rfl ?_
  refine wl_getR d_Mod_draw_1 lf_Mod_7 sh_312 rfl ?_
  refine wp_iconst d_Mod_draw_4 (v := nI 1) rfl ?_
  refine wp_ldc (v := nI 1664525) d_Mod_draw_5 lk_Mod_118 ?_
  refine wp_aload_n d_Mod_draw_7 rfl rfl ?_
  refine wl_getR d_Mod_draw_8 lf_Mod_7 sh_312 rfl ?_
  refine wp_iconst d_Mod_draw_11 (v := nI 1) rfl ?_
  obtain ⟨v2, e1, h⟩ := ob1_some h
  refine wa_ald d_Mod_draw_12 sh_313 e1 ?_
  refine wp_imul d_Mod_draw_13 ?_
  refine wp_ldc (v := nI 1013904223) d_Mod_draw_14 lk_Mod_119 ?_
  refine wp_iadd d_Mod_draw_16 ?_
  obtain ⟨v3, e4, h⟩ := ob1_some h
  refine wx_int e4 ?_
  obtain ⟨M6, e5, h⟩ := ob1_some h
  refine wa_ast d_Mod_draw_17 sh_313 e5 ?_
  refine wp_aload_n d_Mod_draw_18 rfl rfl ?_
  refine wl_getR d_Mod_draw_19 lf_Mod_7 sh_312 rfl ?_
  refine wp_iconst d_Mod_draw_22 (v := nI 1) rfl ?_
  obtain ⟨v8, e7, h⟩ := ob1_some h
  refine wa_ald d_Mod_draw_23 sh_313 e7 ?_
  refine wp_bipush d_Mod_draw_24 (v := nI 8) rfl ?_
  refine wp_iushr d_Mod_draw_26 (v := jushr v8 (nI 8)) rfl ?_
  refine wp_iload_n d_Mod_draw_27 rfl rfl ?_
  obtain ⟨v9, e10, h⟩ := ob1_some h
  refine wq_irem d_Mod_draw_28 e10 ?_
  cases h
  exact wp_iret d_Mod_draw_29 rfl rfl rfl hq
def F_Mod_isInch (i_ : Int32) : Bool :=
  decide ((¬ (i_ < (nI 0)) ∧ i_ < (nI 60)))
theorem s_Mod_isInch {i_ : Int32} {M : mM} {r : Bool} (h : F_Mod_isInch i_ = r) (hq : Q (some (.int (bI r))) (lay M)) : Sp X d f_Mod_isInch [.ref 312, .int i_] (lay M) Q := by
  refine Sp_of (by decide) rfl (Nat.le_of_ble_eq_true rfl) ?_
  have k1 : wp X d f_Mod_isInch (0, 0) 15 [.ref 312, .int i_] [.int (bI (decide ((¬ (i_ < (nI 0)) ∧ i_ < (nI 60)))))] (lay M) Q := by
    cases h
    exact wb_iret d_Mod_isInch_15 rfl rfl hq
  refine wp_iload_n d_Mod_isInch_0 rfl rfl ?_
  refine wz_lt 14 d_Mod_isInch_1 rfl (fun h1 => ?_) (fun h1 => ?_)
  · refine wp_iconst d_Mod_isInch_14 (v := nI 0) rfl ?_
    exact wj_f (fun z => (fun z => z h1) z.1) (k1)
  · refine wp_iload_n d_Mod_isInch_4 rfl rfl ?_
    refine wp_bipush d_Mod_isInch_5 (v := nI 60) rfl ?_
    refine wq_icmp_ge 14 d_Mod_isInch_7 rfl (fun h7 => ?_) (fun h7 => ?_)
    · refine wp_iconst d_Mod_isInch_14 (v := nI 0) rfl ?_
      exact wj_f (fun z => h7 z.2) (k1)
    · refine wp_iconst d_Mod_isInch_10 (v := nI 1) rfl ?_
      refine wp_goto 15 d_Mod_isInch_11 rfl ?_
      exact wj_t ⟨h1, h7⟩ (k1)
def F_Mod_glue (i_ : Int32) (M : mM) : Option (Int32) :=
  ob1 (ra M 313 270 ((nI 10) + i_)) fun v2 =>
  some (v2 + (nI 50))
theorem s_Mod_glue {i_ : Int32} {M : mM} {r : Int32} (h : F_Mod_glue i_ M = some r) (hq : Q (some (.int r)) (lay M)) : Sp X d f_Mod_glue [.ref 312, .int i_] (lay M) Q := by
  refine Sp_of (by decide) rfl (Nat.le_of_ble_eq_true rfl) ?_
  refine wp_aload_n d_Mod_glue_0 rfl rfl ?_
  refine wl_getR d_Mod_glue_1 lf_Mod_7 sh_312 rfl ?_
  refine wp_bipush d_Mod_glue_4 (v := nI 10) rfl ?_
  refine wp_iload_n d_Mod_glue_6 rfl rfl ?_
  refine wp_iadd d_Mod_glue_7 ?_
  obtain ⟨v2, e1, h⟩ := ob1_some h
  refine wa_ald d_Mod_glue_8 sh_313 e1 ?_
  refine wp_bipush d_Mod_glue_9 (v := nI 50) rfl ?_
  refine wp_iadd d_Mod_glue_11 ?_
  cases h
  exact wp_iret d_Mod_glue_12 rfl rfl rfl hq
def F_Mod_hasGlue (i_ : Int32) (v_ : Int32) (M : mM) : Option mM :=
  ob1 (some ((F_Mod_within v_ (nI 0) (nI 99)) - (nI 50))) fun v1 =>
  ob1 (wa M 313 270 ((nI 10) + i_) v1) fun M4 =>
  some M4
theorem s_Mod_hasGlue {i_ : Int32} {v_ : Int32} {M : mM} {M' : mM} (h : F_Mod_hasGlue i_ v_ M = some M') (hq : Q none (lay M')) : Sp X (d + 1) f_Mod_hasGlue [.ref 312, .int i_, .int v_] (lay M) Q := by
  refine Sp_of (by decide) rfl (Nat.le_of_ble_eq_true rfl) ?_
  refine wp_aload_n d_Mod_hasGlue_0 rfl rfl ?_
  refine wl_getR d_Mod_hasGlue_1 lf_Mod_7 sh_312 rfl ?_
  refine wp_bipush d_Mod_hasGlue_4 (v := nI 10) rfl ?_
  refine wp_iload_n d_Mod_hasGlue_6 rfl rfl ?_
  refine wp_iadd d_Mod_hasGlue_7 ?_
  refine wp_aload_n d_Mod_hasGlue_8 rfl rfl ?_
  refine wp_iload_n d_Mod_hasGlue_9 rfl rfl ?_
  refine wp_iconst d_Mod_hasGlue_10 (v := nI 0) rfl ?_
  refine wp_bipush d_Mod_hasGlue_11 (v := nI 99) rfl ?_
  refine wl_callV3 d_Mod_hasGlue_13 lc_Mod_within lv_Mod_120 rfl sh_312 rfl rfl ⟨rfl, rfl⟩ ⟨by decide, by decide⟩ ?_
  refine s_Mod_within (d := d) rfl ?_
  refine wp_bipush d_Mod_hasGlue_16 (v := nI 50) rfl ?_
  refine wp_isub d_Mod_hasGlue_18 ?_
  obtain ⟨v1, e2, h⟩ := ob1_some h
  refine wx_int e2 ?_
  obtain ⟨M4, e3, h⟩ := ob1_some h
  refine wa_ast d_Mod_hasGlue_19 sh_313 e3 ?_
  cases h
  exact wp_ret d_Mod_hasGlue_20 rfl rfl hq
def F_Mod_thingAt (t_ : Int32) : Int32 :=
  (nI 130) + ((nI 7) * t_)
theorem s_Mod_thingAt {t_ : Int32} {M : mM} {r : Int32} (h : F_Mod_thingAt t_ = r) (hq : Q (some (.int r)) (lay M)) : Sp X d f_Mod_thingAt [.ref 312, .int t_] (lay M) Q := by
  refine Sp_of (by decide) rfl (Nat.le_of_ble_eq_true rfl) ?_
  refine wp_sipush d_Mod_thingAt_0 (v := nI 130) rfl ?_
  refine wp_bipush d_Mod_thingAt_3 (v := nI 7) rfl ?_
  refine wp_iload_n d_Mod_thingAt_5 rfl rfl ?_
  refine wp_imul d_Mod_thingAt_6 ?_
  refine wp_iadd d_Mod_thingAt_7 ?_
  cases h
  exact wp_iret d_Mod_thingAt_8 rfl rfl rfl hq
def L_Mod_thingOf_1 (z : Nat) (number_ : Int32) (M : mM) (kt : Option (Int32)) : Nat → Int32 → Option (Int32)
  | 0, _ => none
  | n + 1, t_ =>
    ob1 (ob1 (ra M 313 270 (nI 8)) fun v22 =>
    some (decide (t_ < v22))) fun x3 =>
    if x3 = true then
    ob1 (ob1 (ra M 313 270 (F_Mod_thingAt t_)) fun v18 =>
    some (decide (v18 = number_))) fun x9 =>
    if x9 = true then
    some (t_)
    else
    L_Mod_thingOf_1 z number_ M kt n (t_ + nI 1)
    else
    kt 
def F_Mod_thingOf (z : Nat) (number_ : Int32) (M : mM) : Option (Int32) :=
  L_Mod_thingOf_1 z number_ M (some ((-1))) z (nI 0)
theorem l_Mod_thingOf_1 {number_ : Int32} {M : mM} {kt : Option (Int32)}  {r : Int32} (hq : Q (some (.int r)) (lay M)) (K : ∀  (u2 : Value), kt  = some r → wp X (d + 1) f_Mod_thingOf (0, 0) 35 [.ref 312, .int number_, u2] [] (lay M) Q) : ∀ (n : Nat) (t_ : Int32), L_Mod_thingOf_1 z number_ M kt n t_ = some r → wp X (d + 1) f_Mod_thingOf (0, 0) 2 [.ref 312, .int number_, .int t_] [] (lay M) Q := by
  intro n
  induction n with
  | zero => intro t_ h; exact nn h
  | succ n ih =>
    intro t_ h
    obtain ⟨x3, e4, h⟩ := ob1_some h
    have k7 : x3 = true → wp X (d + 1) f_Mod_thingOf (0, 0) 13 [.ref 312, .int number_, .int t_] [] (lay M) Q := by
      intro x8
      replace h := ip h x8
      obtain ⟨x9, e10, h⟩ := ob1_some h
      have k13 : x9 = true → wp X (d + 1) f_Mod_thingOf (0, 0) 27 [.ref 312, .int number_, .int t_] [] (lay M) Q := by
        intro x14
        replace h := ip h x14
        refine wp_iload_n d_Mod_thingOf_27 rfl rfl ?_
        cases h
        exact wp_iret d_Mod_thingOf_28 rfl rfl rfl hq
      have k15 : ¬ x9 = true → wp X (d + 1) f_Mod_thingOf (0, 0) 29 [.ref 312, .int number_, .int t_] [] (lay M) Q := by
        intro x16
        replace h := inn h x16
        refine wp_iinc d_Mod_thingOf_29 (v := t_ + nI 1) rfl rfl ?_
        refine wp_goto 2 d_Mod_thingOf_32 rfl ?_
        exact ih _ h
      refine wp_aload_n d_Mod_thingOf_13 rfl rfl ?_
      refine wl_getR d_Mod_thingOf_14 lf_Mod_7 sh_312 rfl ?_
      refine wp_aload_n d_Mod_thingOf_17 rfl rfl ?_
      refine wp_iload_n d_Mod_thingOf_18 rfl rfl ?_
      refine wl_callV1 d_Mod_thingOf_19 lc_Mod_thingAt lv_Mod_124 rfl sh_312 rfl rfl ⟨rfl, rfl⟩ ⟨by decide, by decide⟩ ?_
      refine s_Mod_thingAt (d := d) rfl ?_
      obtain ⟨v18, e17, e10⟩ := ob1_some e10
      refine wa_ald d_Mod_thingOf_22 sh_313 e17 ?_
      refine wp_iload_n d_Mod_thingOf_23 rfl rfl ?_
      refine wq_icmp_ne 29 d_Mod_thingOf_24 rfl (fun h24 => ?_) (fun h24 => ?_)
      · cases e10
        exact k15 (fun z => h24 (of_decide_eq_true z))
      · cases e10
        exact k13 (decide_eq_true h24)
    have k19 : ¬ x3 = true → wp X (d + 1) f_Mod_thingOf (0, 0) 35 [.ref 312, .int number_, .int t_] [] (lay M) Q := by
      intro x20
      replace h := inn h x20
      exact K _ h
    refine wp_iload_n d_Mod_thingOf_2 rfl rfl ?_
    refine wp_aload_n d_Mod_thingOf_3 rfl rfl ?_
    refine wl_getR d_Mod_thingOf_4 lf_Mod_7 sh_312 rfl ?_
    refine wp_bipush d_Mod_thingOf_7 (v := nI 8) rfl ?_
    obtain ⟨v22, e21, e4⟩ := ob1_some e4
    refine wa_ald d_Mod_thingOf_9 sh_313 e21 ?_
    refine wq_icmp_ge 35 d_Mod_thingOf_10 rfl (fun h10 => ?_) (fun h10 => ?_)
    · cases e4
      exact k19 (fun z => h10 (of_decide_eq_true z))
    · cases e4
      exact k7 (decide_eq_true h10)
theorem s_Mod_thingOf {number_ : Int32} {M : mM} {r : Int32} (h : F_Mod_thingOf z number_ M = some r) (hq : Q (some (.int r)) (lay M)) : Sp X (d + 1) f_Mod_thingOf [.ref 312, .int number_] (lay M) Q := by
  refine Sp_of (by decide) rfl (Nat.le_of_ble_eq_true rfl) ?_
  refine wp_iconst d_Mod_thingOf_0 (v := nI 0) rfl ?_
  refine wp_istore_n d_Mod_thingOf_1 rfl (by decide) ?_
  refine l_Mod_thingOf_1 hq ?_ _ _ h
  intro u2 h
  refine wp_iconst d_Mod_thingOf_35 (v := (-1)) rfl ?_
  cases h
  exact wp_iret d_Mod_thingOf_36 rfl rfl rfl hq
def L_Mod_stuckAt_1 (z : Nat) (i_ : Int32) (M : mM) (kt : Option (Int32)) : Nat → Int32 → Option (Int32)
  | 0, _ => none
  | n + 1, t_ =>
    ob1 (ob1 (ra M 313 270 (nI 8)) fun v22 =>
    some (decide (t_ < v22))) fun x3 =>
    if x3 = true then
    ob1 (ob1 (ra M 313 270 ((F_Mod_thingAt t_) + (nI 4))) fun v18 =>
    some (decide (v18 = i_))) fun x9 =>
    if x9 = true then
    some (t_)
    else
    L_Mod_stuckAt_1 z i_ M kt n (t_ + nI 1)
    else
    kt 
def F_Mod_stuckAt (z : Nat) (i_ : Int32) (M : mM) : Option (Int32) :=
  L_Mod_stuckAt_1 z i_ M (some ((-1))) z (nI 0)
theorem l_Mod_stuckAt_1 {i_ : Int32} {M : mM} {kt : Option (Int32)}  {r : Int32} (hq : Q (some (.int r)) (lay M)) (K : ∀  (u2 : Value), kt  = some r → wp X (d + 1) f_Mod_stuckAt (0, 0) 37 [.ref 312, .int i_, u2] [] (lay M) Q) : ∀ (n : Nat) (t_ : Int32), L_Mod_stuckAt_1 z i_ M kt n t_ = some r → wp X (d + 1) f_Mod_stuckAt (0, 0) 2 [.ref 312, .int i_, .int t_] [] (lay M) Q := by
  intro n
  induction n with
  | zero => intro t_ h; exact nn h
  | succ n ih =>
    intro t_ h
    obtain ⟨x3, e4, h⟩ := ob1_some h
    have k7 : x3 = true → wp X (d + 1) f_Mod_stuckAt (0, 0) 13 [.ref 312, .int i_, .int t_] [] (lay M) Q := by
      intro x8
      replace h := ip h x8
      obtain ⟨x9, e10, h⟩ := ob1_some h
      have k13 : x9 = true → wp X (d + 1) f_Mod_stuckAt (0, 0) 29 [.ref 312, .int i_, .int t_] [] (lay M) Q := by
        intro x14
        replace h := ip h x14
        refine wp_iload_n d_Mod_stuckAt_29 rfl rfl ?_
        cases h
        exact wp_iret d_Mod_stuckAt_30 rfl rfl rfl hq
      have k15 : ¬ x9 = true → wp X (d + 1) f_Mod_stuckAt (0, 0) 31 [.ref 312, .int i_, .int t_] [] (lay M) Q := by
        intro x16
        replace h := inn h x16
        refine wp_iinc d_Mod_stuckAt_31 (v := t_ + nI 1) rfl rfl ?_
        refine wp_goto 2 d_Mod_stuckAt_34 rfl ?_
        exact ih _ h
      refine wp_aload_n d_Mod_stuckAt_13 rfl rfl ?_
      refine wl_getR d_Mod_stuckAt_14 lf_Mod_7 sh_312 rfl ?_
      refine wp_aload_n d_Mod_stuckAt_17 rfl rfl ?_
      refine wp_iload_n d_Mod_stuckAt_18 rfl rfl ?_
      refine wl_callV1 d_Mod_stuckAt_19 lc_Mod_thingAt lv_Mod_124 rfl sh_312 rfl rfl ⟨rfl, rfl⟩ ⟨by decide, by decide⟩ ?_
      refine s_Mod_thingAt (d := d) rfl ?_
      refine wp_iconst d_Mod_stuckAt_22 (v := nI 4) rfl ?_
      refine wp_iadd d_Mod_stuckAt_23 ?_
      obtain ⟨v18, e17, e10⟩ := ob1_some e10
      refine wa_ald d_Mod_stuckAt_24 sh_313 e17 ?_
      refine wp_iload_n d_Mod_stuckAt_25 rfl rfl ?_
      refine wq_icmp_ne 31 d_Mod_stuckAt_26 rfl (fun h26 => ?_) (fun h26 => ?_)
      · cases e10
        exact k15 (fun z => h26 (of_decide_eq_true z))
      · cases e10
        exact k13 (decide_eq_true h26)
    have k19 : ¬ x3 = true → wp X (d + 1) f_Mod_stuckAt (0, 0) 37 [.ref 312, .int i_, .int t_] [] (lay M) Q := by
      intro x20
      replace h := inn h x20
      exact K _ h
    refine wp_iload_n d_Mod_stuckAt_2 rfl rfl ?_
    refine wp_aload_n d_Mod_stuckAt_3 rfl rfl ?_
    refine wl_getR d_Mod_stuckAt_4 lf_Mod_7 sh_312 rfl ?_
    refine wp_bipush d_Mod_stuckAt_7 (v := nI 8) rfl ?_
    obtain ⟨v22, e21, e4⟩ := ob1_some e4
    refine wa_ald d_Mod_stuckAt_9 sh_313 e21 ?_
    refine wq_icmp_ge 37 d_Mod_stuckAt_10 rfl (fun h10 => ?_) (fun h10 => ?_)
    · cases e4
      exact k19 (fun z => h10 (of_decide_eq_true z))
    · cases e4
      exact k7 (decide_eq_true h10)
theorem s_Mod_stuckAt {i_ : Int32} {M : mM} {r : Int32} (h : F_Mod_stuckAt z i_ M = some r) (hq : Q (some (.int r)) (lay M)) : Sp X (d + 1) f_Mod_stuckAt [.ref 312, .int i_] (lay M) Q := by
  refine Sp_of (by decide) rfl (Nat.le_of_ble_eq_true rfl) ?_
  refine wp_iconst d_Mod_stuckAt_0 (v := nI 0) rfl ?_
  refine wp_istore_n d_Mod_stuckAt_1 rfl (by decide) ?_
  refine l_Mod_stuckAt_1 hq ?_ _ _ h
  intro u2 h
  refine wp_iconst d_Mod_stuckAt_37 (v := (-1)) rfl ?_
  cases h
  exact wp_iret d_Mod_stuckAt_38 rfl rfl rfl hq
def F_Mod_isTaken (z : Nat) (i_ : Int32) (M : mM) : Option (Bool) :=
  ob1 (ob1 (F_Mod_stuckAt z i_ M) fun v6 =>
  some (decide (¬ (v6 = (-1))))) fun x4 =>
  some (x4)
theorem s_Mod_isTaken {i_ : Int32} {M : mM} {r : Bool} (h : F_Mod_isTaken z i_ M = some r) (hq : Q (some (.int (bI r))) (lay M)) : Sp X (d + 2) f_Mod_isTaken [.ref 312, .int i_] (lay M) Q := by
  refine Sp_of (by decide) rfl (Nat.le_of_ble_eq_true rfl) ?_
  obtain ⟨x4, e5, h⟩ := ob1_some h
  have k3 : wp X (d + 2) f_Mod_isTaken (0, 0) 14 [.ref 312, .int i_] [.int (bI x4)] (lay M) Q := by
    cases h
    exact wb_iret d_Mod_isTaken_14 rfl rfl hq
  refine wp_aload_n d_Mod_isTaken_0 rfl rfl ?_
  refine wp_iload_n d_Mod_isTaken_1 rfl rfl ?_
  obtain ⟨v6, e7, e5⟩ := ob1_some e5
  refine wl_callV1 d_Mod_isTaken_2 lc_Mod_stuckAt lv_Mod_128 rfl sh_312 rfl rfl ⟨rfl, rfl⟩ ⟨by decide, by decide⟩ ?_
  refine s_Mod_stuckAt (d := d) e7 ?_
  refine wp_iconst d_Mod_isTaken_5 (v := (-1)) rfl ?_
  refine wq_icmp_eq 13 d_Mod_isTaken_6 rfl (fun h6 => ?_) (fun h6 => ?_)
  · cases e5
    refine wp_iconst d_Mod_isTaken_13 (v := nI 0) rfl ?_
    exact wj_b0 (fun z => (fun z => z h6) (of_decide_eq_true z)) (k3)
  · cases e5
    refine wp_iconst d_Mod_isTaken_9 (v := nI 1) rfl ?_
    refine wp_goto 14 d_Mod_isTaken_10 rfl ?_
    exact wj_b1 (decide_eq_true h6) (k3)
def L_Mod_legsOfAll_1 (z : Nat) (M : mM) : Nat → Int32 → Int32 → Option (Int32)
  | 0, _, _ => none
  | n + 1, sum_, i_ =>
    if i_ < (nI 60) then
    ob1 (ra M 313 270 ((nI 70) + i_)) fun v2 =>
    L_Mod_legsOfAll_1 z M n (sum_ + v2) (i_ + nI 1)
    else
    some (sum_)
def F_Mod_legsOfAll (z : Nat) (M : mM) : Option (Int32) :=
  ob1 (L_Mod_legsOfAll_1 z M z (nI 0) (nI 0)) fun sum_3 =>
  some (sum_3)
theorem l_Mod_legsOfAll_1 {M : mM}  {sum_r : Int32} (K : ∀ u2 : Value, wp X d f_Mod_legsOfAll (0, 0) 28 [.ref 312, .int sum_r, u2] [] (lay M) Q) : ∀ (n : Nat) (sum_ : Int32) (i_ : Int32), L_Mod_legsOfAll_1 z M n sum_ i_ = some (sum_r) → wp X d f_Mod_legsOfAll (0, 0) 4 [.ref 312, .int sum_, .int i_] [] (lay M) Q := by
  intro n
  induction n with
  | zero => intro sum_ i_ h; exact nn h
  | succ n ih =>
    intro sum_ i_ h
    refine wp_iload_n d_Mod_legsOfAll_4 rfl rfl ?_
    refine wp_bipush d_Mod_legsOfAll_5 (v := nI 60) rfl ?_
    refine wq_icmp_ge 28 d_Mod_legsOfAll_7 rfl (fun h7 => ?_) (fun h7 => ?_)
    · replace h := inn h h7
      cases h
      exact K _
    · replace h := ip h h7
      refine wp_iload_n d_Mod_legsOfAll_10 rfl rfl ?_
      refine wp_aload_n d_Mod_legsOfAll_11 rfl rfl ?_
      refine wl_getR d_Mod_legsOfAll_12 lf_Mod_7 sh_312 rfl ?_
      refine wp_bipush d_Mod_legsOfAll_15 (v := nI 70) rfl ?_
      refine wp_iload_n d_Mod_legsOfAll_17 rfl rfl ?_
      refine wp_iadd d_Mod_legsOfAll_18 ?_
      obtain ⟨v2, e1, h⟩ := ob1_some h
      refine wa_ald d_Mod_legsOfAll_19 sh_313 e1 ?_
      refine wp_iadd d_Mod_legsOfAll_20 ?_
      refine wp_istore_n d_Mod_legsOfAll_21 rfl (by decide) ?_
      refine wp_iinc d_Mod_legsOfAll_22 (v := i_ + nI 1) rfl rfl ?_
      refine wp_goto 4 d_Mod_legsOfAll_25 rfl ?_
      exact ih _ _ h
theorem s_Mod_legsOfAll {M : mM} {r : Int32} (h : F_Mod_legsOfAll z M = some r) (hq : Q (some (.int r)) (lay M)) : Sp X d f_Mod_legsOfAll [.ref 312] (lay M) Q := by
  refine Sp_of (by decide) rfl (Nat.le_of_ble_eq_true rfl) ?_
  refine wp_iconst d_Mod_legsOfAll_0 (v := nI 0) rfl ?_
  refine wp_istore_n d_Mod_legsOfAll_1 rfl (by decide) ?_
  refine wp_iconst d_Mod_legsOfAll_2 (v := nI 0) rfl ?_
  refine wp_istore_n d_Mod_legsOfAll_3 rfl (by decide) ?_
  obtain ⟨sum_3, e4, h⟩ := ob1_some h
  refine l_Mod_legsOfAll_1 ?_ _ _ _ e4
  intro u2
  refine wp_iload_n d_Mod_legsOfAll_28 rfl rfl ?_
  cases h
  exact wp_iret d_Mod_legsOfAll_29 rfl rfl rfl hq
def F_Mod_canSet (z : Nat) (what_ : Int32) (who_ : Int32) (v_ : Int32) (M : mM) : Option (Bool) :=
  if what_ = (nI 0) then
  some (decide (((F_Mod_isInch who_) = true ∧ (F_Mod_isIn v_ (nI 0) (nI 99)) = true)))
  else
  if (what_ = (nI 4) ∨ what_ = (nI 5)) then
  some (F_Mod_isIn v_ (nI 0) (nI 9))
  else
  ob1 (ob1 (if (F_Mod_isIn what_ (nI 1) (nI 3)) = true then ob1 (F_Mod_thingOf z who_ M) fun v28 =>
  some (decide (¬ (v28 = (-1))))
  else some (false)) fun x18 =>
  if x18 = true then some (decide ((F_Mod_isIn v_ (if what_ = (nI 1) then nI 1 else nI 0) (if what_ = (nI 3) then nI 6 else nI 9)) = true))
  else some (false)) fun x16 =>
  some (x16)
theorem s_Mod_canSet {what_ : Int32} {who_ : Int32} {v_ : Int32} {M : mM} {r : Bool} (h : F_Mod_canSet z what_ who_ v_ M = some r) (hq : Q (some (.int (bI r))) (lay M)) : Sp X (d + 2) f_Mod_canSet [.ref 312, .int what_, .int who_, .int v_] (lay M) Q := by
  refine Sp_of (by decide) rfl (Nat.le_of_ble_eq_true rfl) ?_
  refine wp_iload_n d_Mod_canSet_0 rfl rfl ?_
  refine wz_ne 29 d_Mod_canSet_1 rfl (fun h1 => ?_) (fun h1 => ?_)
  · replace h := inn h h1
    have k1 : (what_ = (nI 4) ∨ what_ = (nI 5)) → wp X (d + 2) f_Mod_canSet (0, 0) 39 [.ref 312, .int what_, .int who_, .int v_] [] (lay M) Q := by
      intro x2
      replace h := ip h x2
      refine wp_aload_n d_Mod_canSet_39 rfl rfl ?_
      refine wp_iload_n d_Mod_canSet_40 rfl rfl ?_
      refine wp_iconst d_Mod_canSet_41 (v := nI 0) rfl ?_
      refine wp_bipush d_Mod_canSet_42 (v := nI 9) rfl ?_
      refine wl_callV3 d_Mod_canSet_44 lc_Mod_isIn lv_Mod_135 rfl sh_312 rfl rfl ⟨rfl, rfl⟩ ⟨by decide, by decide⟩ ?_
      refine s_Mod_isIn (d := d + 1) rfl ?_
      cases h
      exact wb_iret d_Mod_canSet_47 rfl rfl hq
    refine wp_iload_n d_Mod_canSet_29 rfl rfl ?_
    refine wp_iconst d_Mod_canSet_30 (v := nI 4) rfl ?_
    refine wq_icmp_eq 39 d_Mod_canSet_31 rfl (fun h31 => ?_) (fun h31 => ?_)
    · exact k1 (Or.inl h31)
    · refine wp_iload_n d_Mod_canSet_34 rfl rfl ?_
      refine wp_iconst d_Mod_canSet_35 (v := nI 5) rfl ?_
      refine wq_icmp_ne 48 d_Mod_canSet_36 rfl (fun h36 => ?_) (fun h36 => ?_)
      · replace h := inn h (fun z => z.elim h31 h36)
        obtain ⟨x16, e17, h⟩ := ob1_some h
        have k15 : wp X (d + 2) f_Mod_canSet (0, 0) 102 [.ref 312, .int what_, .int who_, .int v_] [.int (bI x16)] (lay M) Q := by
          cases h
          exact wb_iret d_Mod_canSet_102 rfl rfl hq
        obtain ⟨x18, e19, e17⟩ := ob1_some e17
        have k22 : x18 = true → wp X (d + 2) f_Mod_canSet (0, 0) 67 [.ref 312, .int what_, .int who_, .int v_] [] (lay M) Q := by
          intro x23
          replace e17 := ip e17 x23
          refine wp_aload_n d_Mod_canSet_67 rfl rfl ?_
          refine wp_iload_n d_Mod_canSet_68 rfl rfl ?_
          have k24 : wp X (d + 2) f_Mod_canSet (0, 0) 79 [.ref 312, .int what_, .int who_, .int v_] [.int (if what_ = (nI 1) then nI 1 else nI 0), .int v_, .ref 312] (lay M) Q := by
            have k25 : wp X (d + 2) f_Mod_canSet (0, 0) 91 [.ref 312, .int what_, .int who_, .int v_] [.int (if what_ = (nI 3) then nI 6 else nI 9), .int (if what_ = (nI 1) then nI 1 else nI 0), .int v_, .ref 312] (lay M) Q := by
              refine wl_callV3 d_Mod_canSet_91 lc_Mod_isIn lv_Mod_135 rfl sh_312 rfl rfl ⟨rfl, rfl⟩ ⟨by decide, by decide⟩ ?_
              refine s_Mod_isIn (d := d + 1) rfl ?_
              refine wc_eq 101 d_Mod_canSet_94 rfl (fun h94 => ?_) (fun h94 => ?_)
              · cases e17
                refine wp_iconst d_Mod_canSet_101 (v := nI 0) rfl ?_
                exact wj_b0 (fun z => h94 (of_decide_eq_true z)) (k15)
              · cases e17
                refine wp_iconst d_Mod_canSet_97 (v := nI 1) rfl ?_
                refine wp_goto 102 d_Mod_canSet_98 rfl ?_
                exact wj_b1 (decide_eq_true h94) (k15)
            refine wp_iload_n d_Mod_canSet_79 rfl rfl ?_
            refine wp_iconst d_Mod_canSet_80 (v := nI 3) rfl ?_
            refine wq_icmp_ne 89 d_Mod_canSet_81 rfl (fun h81 => ?_) (fun h81 => ?_)
            · refine wp_bipush d_Mod_canSet_89 (v := nI 9) rfl ?_
              exact wj_in h81 (k25)
            · refine wp_bipush d_Mod_canSet_84 (v := nI 6) rfl ?_
              refine wp_goto 91 d_Mod_canSet_86 rfl ?_
              exact wj_ip h81 (k25)
          refine wp_iload_n d_Mod_canSet_69 rfl rfl ?_
          refine wp_iconst d_Mod_canSet_70 (v := nI 1) rfl ?_
          refine wq_icmp_ne 78 d_Mod_canSet_71 rfl (fun h71 => ?_) (fun h71 => ?_)
          · refine wp_iconst d_Mod_canSet_78 (v := nI 0) rfl ?_
            exact wj_in h71 (k24)
          · refine wp_iconst d_Mod_canSet_74 (v := nI 1) rfl ?_
            refine wp_goto 79 d_Mod_canSet_75 rfl ?_
            exact wj_ip h71 (k24)
        have k26 : ¬ x18 = true → wp X (d + 2) f_Mod_canSet (0, 0) 101 [.ref 312, .int what_, .int who_, .int v_] [] (lay M) Q := by
          intro x27
          replace e17 := inn e17 x27
          cases e17
          refine wp_iconst d_Mod_canSet_101 (v := nI 0) rfl ?_
          exact wj_b0 (fun z => Bool.noConfusion z) (k15)
        refine wp_aload_n d_Mod_canSet_48 rfl rfl ?_
        refine wp_iload_n d_Mod_canSet_49 rfl rfl ?_
        refine wp_iconst d_Mod_canSet_50 (v := nI 1) rfl ?_
        refine wp_iconst d_Mod_canSet_51 (v := nI 3) rfl ?_
        refine wl_callV3 d_Mod_canSet_52 lc_Mod_isIn lv_Mod_135 rfl sh_312 rfl rfl ⟨rfl, rfl⟩ ⟨by decide, by decide⟩ ?_
        refine s_Mod_isIn (d := d + 1) rfl ?_
        refine wc_eq 101 d_Mod_canSet_55 rfl (fun h55 => ?_) (fun h55 => ?_)
        · replace e19 := inn e19 h55
          cases e19
          exact k26 (fun z => Bool.noConfusion z)
        · replace e19 := ip e19 h55
          refine wp_aload_n d_Mod_canSet_58 rfl rfl ?_
          refine wp_iload_n d_Mod_canSet_59 rfl rfl ?_
          obtain ⟨v28, e29, e19⟩ := ob1_some e19
          refine wl_callV1 d_Mod_canSet_60 lc_Mod_thingOf lv_Mod_139 rfl sh_312 rfl rfl ⟨rfl, rfl⟩ ⟨by decide, by decide⟩ ?_
          refine s_Mod_thingOf (d := d) e29 ?_
          refine wp_iconst d_Mod_canSet_63 (v := (-1)) rfl ?_
          refine wq_icmp_eq 101 d_Mod_canSet_64 rfl (fun h64 => ?_) (fun h64 => ?_)
          · cases e19
            exact k26 (fun z => (fun z => z h64) (of_decide_eq_true z))
          · cases e19
            exact k22 (decide_eq_true h64)
      · exact k1 (Or.inr h36)
  · replace h := ip h h1
    have k30 : wp X (d + 2) f_Mod_canSet (0, 0) 28 [.ref 312, .int what_, .int who_, .int v_] [.int (bI (decide (((F_Mod_isInch who_) = true ∧ (F_Mod_isIn v_ (nI 0) (nI 99)) = true))))] (lay M) Q := by
      cases h
      exact wb_iret d_Mod_canSet_28 rfl rfl hq
    refine wp_aload_n d_Mod_canSet_4 rfl rfl ?_
    refine wp_iload_n d_Mod_canSet_5 rfl rfl ?_
    refine wl_callV1 d_Mod_canSet_6 lc_Mod_isInch lv_Mod_131 rfl sh_312 rfl rfl ⟨rfl, rfl⟩ ⟨by decide, by decide⟩ ?_
    refine s_Mod_isInch (d := d + 1) rfl ?_
    refine wc_eq 27 d_Mod_canSet_9 rfl (fun h9 => ?_) (fun h9 => ?_)
    · refine wp_iconst d_Mod_canSet_27 (v := nI 0) rfl ?_
      exact wj_f (fun z => h9 z.1) (k30)
    · refine wp_aload_n d_Mod_canSet_12 rfl rfl ?_
      refine wp_iload_n d_Mod_canSet_13 rfl rfl ?_
      refine wp_iconst d_Mod_canSet_14 (v := nI 0) rfl ?_
      refine wp_bipush d_Mod_canSet_15 (v := nI 99) rfl ?_
      refine wl_callV3 d_Mod_canSet_17 lc_Mod_isIn lv_Mod_135 rfl sh_312 rfl rfl ⟨rfl, rfl⟩ ⟨by decide, by decide⟩ ?_
      refine s_Mod_isIn (d := d + 1) rfl ?_
      refine wc_eq 27 d_Mod_canSet_20 rfl (fun h20 => ?_) (fun h20 => ?_)
      · refine wp_iconst d_Mod_canSet_27 (v := nI 0) rfl ?_
        exact wj_f (fun z => h20 z.2) (k30)
      · refine wp_iconst d_Mod_canSet_23 (v := nI 1) rfl ?_
        refine wp_goto 28 d_Mod_canSet_24 rfl ?_
        exact wj_t ⟨h9, h20⟩ (k30)
def F_Mod_set (z : Nat) (what_ : Int32) (who_ : Int32) (v_ : Int32) (M : mM) : Option (Bool × mM) :=
  ob1 (ob1 (ob1 (F_Mod_canSet z what_ who_ v_ M) fun v69 =>
  some (v69)) fun x67 => some (!x67)) fun x1 =>
  if x1 = true then
  some (false, M)
  else
  ob1 (if what_ = (nI 0) then
  ob1 (F_Mod_hasGlue who_ v_ M) fun M65 =>
  some (M65)
  else
  some (M)) fun M14 =>
  ob1 (if what_ = (nI 1) then
  ob1 (F_Mod_thingOf z who_ M14) fun v61 =>
  ob1 (wa M14 313 270 ((F_Mod_thingAt v61) + (nI 2)) v_) fun M64 =>
  some (M64)
  else
  some (M14)) fun M21 =>
  ob1 (if what_ = (nI 2) then
  ob1 (F_Mod_thingOf z who_ M21) fun v57 =>
  ob1 (wa M21 313 270 ((F_Mod_thingAt v57) + (nI 3)) v_) fun M60 =>
  some (M60)
  else
  some (M21)) fun M28 =>
  ob1 (if what_ = (nI 3) then
  ob1 (F_Mod_thingOf z who_ M28) fun v53 =>
  ob1 (wa M28 313 270 ((F_Mod_thingAt v53) + (nI 6)) v_) fun M56 =>
  some (M56)
  else
  some (M28)) fun M35 =>
  ob1 (if what_ = (nI 4) then
  ob1 (wa M35 313 270 (nI 3) v_) fun M52 =>
  some (M52)
  else
  some (M35)) fun M40 =>
  ob1 (if what_ = (nI 5) then
  ob1 (wa M40 313 270 (nI 4) v_) fun M50 =>
  some (M50)
  else
  some (M40)) fun M45 =>
  ob1 (some (up M45 312 3 (nI 0))) fun M47 =>
  some (true, M47)
theorem s_Mod_set {what_ : Int32} {who_ : Int32} {v_ : Int32} {M : mM} {r : Bool} {M' : mM} (h : F_Mod_set z what_ who_ v_ M = some (r, M')) (hq : Q (some (.int (bI r))) (lay M')) : Sp X (d + 3) f_Mod_set [.ref 312, .int what_, .int who_, .int v_] (lay M) Q := by
  refine Sp_of (by decide) rfl (Nat.le_of_ble_eq_true rfl) ?_
  refine wp_aload_n d_Mod_set_0 rfl rfl ?_
  refine wp_iconst d_Mod_set_1 (v := nI 0) rfl ?_
  refine wl_putC d_Mod_set_2 lp_Mod_107 sh_312 rfl ⟨rfl, rfl⟩ ?_
  obtain ⟨x1, e2, h⟩ := ob1_some h
  have k7 : x1 = true → wp X (d + 3) f_Mod_set (0, 0) 15 [.ref 312, .int what_, .int who_, .int v_] [] (lay M) Q := by
    intro x8
    replace h := ip h x8
    refine wp_iconst d_Mod_set_15 (v := bI false) rfl ?_
    cases h
    exact wb_iret d_Mod_set_16 rfl rfl hq
  have k9 : ¬ x1 = true → wp X (d + 3) f_Mod_set (0, 0) 17 [.ref 312, .int what_, .int who_, .int v_] [] (lay M) Q := by
    intro x10
    replace h := inn h x10
    obtain ⟨M14, e15, h⟩ := ob1_some h
    have k13 : wp X (d + 3) f_Mod_set (0, 0) 27 [.ref 312, .int what_, .int who_, .int v_] [] (lay M14) Q := by
      obtain ⟨M21, e22, h⟩ := ob1_some h
      have k20 : wp X (d + 3) f_Mod_set (0, 0) 49 [.ref 312, .int what_, .int who_, .int v_] [] (lay M21) Q := by
        obtain ⟨M28, e29, h⟩ := ob1_some h
        have k27 : wp X (d + 3) f_Mod_set (0, 0) 71 [.ref 312, .int what_, .int who_, .int v_] [] (lay M28) Q := by
          obtain ⟨M35, e36, h⟩ := ob1_some h
          have k34 : wp X (d + 3) f_Mod_set (0, 0) 94 [.ref 312, .int what_, .int who_, .int v_] [] (lay M35) Q := by
            obtain ⟨M40, e41, h⟩ := ob1_some h
            have k39 : wp X (d + 3) f_Mod_set (0, 0) 106 [.ref 312, .int what_, .int who_, .int v_] [] (lay M40) Q := by
              obtain ⟨M45, e46, h⟩ := ob1_some h
              have k44 : wp X (d + 3) f_Mod_set (0, 0) 118 [.ref 312, .int what_, .int who_, .int v_] [] (lay M45) Q := by
                refine wp_aload_n d_Mod_set_118 rfl rfl ?_
                refine wp_iconst d_Mod_set_119 (v := nI 0) rfl ?_
                refine wl_put d_Mod_set_120 lp_Mod_111 sh_312 rfl ⟨rfl, rfl⟩ ?_
                obtain ⟨M47, e48, h⟩ := ob1_some h
                refine wx_M e48 ?_
                refine wp_iconst d_Mod_set_123 (v := bI true) rfl ?_
                cases h
                exact wb_iret d_Mod_set_124 rfl rfl hq
              refine wp_iload_n d_Mod_set_106 rfl rfl ?_
              refine wp_iconst d_Mod_set_107 (v := nI 5) rfl ?_
              refine wq_icmp_ne 118 d_Mod_set_108 rfl (fun h108 => ?_) (fun h108 => ?_)
              · replace e46 := inn e46 h108
                cases e46
                exact k44
              · replace e46 := ip e46 h108
                refine wp_aload_n d_Mod_set_111 rfl rfl ?_
                refine wl_getR d_Mod_set_112 lf_Mod_7 sh_312 rfl ?_
                refine wp_iconst d_Mod_set_115 (v := nI 4) rfl ?_
                refine wp_iload_n d_Mod_set_116 rfl rfl ?_
                obtain ⟨M50, e49, e46⟩ := ob1_some e46
                refine wa_ast d_Mod_set_117 sh_313 e49 ?_
                cases e46
                exact k44
            refine wp_iload_n d_Mod_set_94 rfl rfl ?_
            refine wp_iconst d_Mod_set_95 (v := nI 4) rfl ?_
            refine wq_icmp_ne 106 d_Mod_set_96 rfl (fun h96 => ?_) (fun h96 => ?_)
            · replace e41 := inn e41 h96
              cases e41
              exact k39
            · replace e41 := ip e41 h96
              refine wp_aload_n d_Mod_set_99 rfl rfl ?_
              refine wl_getR d_Mod_set_100 lf_Mod_7 sh_312 rfl ?_
              refine wp_iconst d_Mod_set_103 (v := nI 3) rfl ?_
              refine wp_iload_n d_Mod_set_104 rfl rfl ?_
              obtain ⟨M52, e51, e41⟩ := ob1_some e41
              refine wa_ast d_Mod_set_105 sh_313 e51 ?_
              cases e41
              exact k39
          refine wp_iload_n d_Mod_set_71 rfl rfl ?_
          refine wp_iconst d_Mod_set_72 (v := nI 3) rfl ?_
          refine wq_icmp_ne 94 d_Mod_set_73 rfl (fun h73 => ?_) (fun h73 => ?_)
          · replace e36 := inn e36 h73
            cases e36
            exact k34
          · replace e36 := ip e36 h73
            refine wp_aload_n d_Mod_set_76 rfl rfl ?_
            refine wl_getR d_Mod_set_77 lf_Mod_7 sh_312 rfl ?_
            refine wp_aload_n d_Mod_set_80 rfl rfl ?_
            refine wp_aload_n d_Mod_set_81 rfl rfl ?_
            refine wp_iload_n d_Mod_set_82 rfl rfl ?_
            obtain ⟨v53, e54, e36⟩ := ob1_some e36
            refine wl_callV1 d_Mod_set_83 lc_Mod_thingOf lv_Mod_139 rfl sh_312 rfl rfl ⟨rfl, rfl⟩ ⟨by decide, by decide⟩ ?_
            refine s_Mod_thingOf (d := d + 1) e54 ?_
            refine wl_callV1 d_Mod_set_86 lc_Mod_thingAt lv_Mod_124 rfl sh_312 rfl rfl ⟨rfl, rfl⟩ ⟨by decide, by decide⟩ ?_
            refine s_Mod_thingAt (d := d + 2) rfl ?_
            refine wp_bipush d_Mod_set_89 (v := nI 6) rfl ?_
            refine wp_iadd d_Mod_set_91 ?_
            refine wp_iload_n d_Mod_set_92 rfl rfl ?_
            obtain ⟨M56, e55, e36⟩ := ob1_some e36
            refine wa_ast d_Mod_set_93 sh_313 e55 ?_
            cases e36
            exact k34
        refine wp_iload_n d_Mod_set_49 rfl rfl ?_
        refine wp_iconst d_Mod_set_50 (v := nI 2) rfl ?_
        refine wq_icmp_ne 71 d_Mod_set_51 rfl (fun h51 => ?_) (fun h51 => ?_)
        · replace e29 := inn e29 h51
          cases e29
          exact k27
        · replace e29 := ip e29 h51
          refine wp_aload_n d_Mod_set_54 rfl rfl ?_
          refine wl_getR d_Mod_set_55 lf_Mod_7 sh_312 rfl ?_
          refine wp_aload_n d_Mod_set_58 rfl rfl ?_
          refine wp_aload_n d_Mod_set_59 rfl rfl ?_
          refine wp_iload_n d_Mod_set_60 rfl rfl ?_
          obtain ⟨v57, e58, e29⟩ := ob1_some e29
          refine wl_callV1 d_Mod_set_61 lc_Mod_thingOf lv_Mod_139 rfl sh_312 rfl rfl ⟨rfl, rfl⟩ ⟨by decide, by decide⟩ ?_
          refine s_Mod_thingOf (d := d + 1) e58 ?_
          refine wl_callV1 d_Mod_set_64 lc_Mod_thingAt lv_Mod_124 rfl sh_312 rfl rfl ⟨rfl, rfl⟩ ⟨by decide, by decide⟩ ?_
          refine s_Mod_thingAt (d := d + 2) rfl ?_
          refine wp_iconst d_Mod_set_67 (v := nI 3) rfl ?_
          refine wp_iadd d_Mod_set_68 ?_
          refine wp_iload_n d_Mod_set_69 rfl rfl ?_
          obtain ⟨M60, e59, e29⟩ := ob1_some e29
          refine wa_ast d_Mod_set_70 sh_313 e59 ?_
          cases e29
          exact k27
      refine wp_iload_n d_Mod_set_27 rfl rfl ?_
      refine wp_iconst d_Mod_set_28 (v := nI 1) rfl ?_
      refine wq_icmp_ne 49 d_Mod_set_29 rfl (fun h29 => ?_) (fun h29 => ?_)
      · replace e22 := inn e22 h29
        cases e22
        exact k20
      · replace e22 := ip e22 h29
        refine wp_aload_n d_Mod_set_32 rfl rfl ?_
        refine wl_getR d_Mod_set_33 lf_Mod_7 sh_312 rfl ?_
        refine wp_aload_n d_Mod_set_36 rfl rfl ?_
        refine wp_aload_n d_Mod_set_37 rfl rfl ?_
        refine wp_iload_n d_Mod_set_38 rfl rfl ?_
        obtain ⟨v61, e62, e22⟩ := ob1_some e22
        refine wl_callV1 d_Mod_set_39 lc_Mod_thingOf lv_Mod_139 rfl sh_312 rfl rfl ⟨rfl, rfl⟩ ⟨by decide, by decide⟩ ?_
        refine s_Mod_thingOf (d := d + 1) e62 ?_
        refine wl_callV1 d_Mod_set_42 lc_Mod_thingAt lv_Mod_124 rfl sh_312 rfl rfl ⟨rfl, rfl⟩ ⟨by decide, by decide⟩ ?_
        refine s_Mod_thingAt (d := d + 2) rfl ?_
        refine wp_iconst d_Mod_set_45 (v := nI 2) rfl ?_
        refine wp_iadd d_Mod_set_46 ?_
        refine wp_iload_n d_Mod_set_47 rfl rfl ?_
        obtain ⟨M64, e63, e22⟩ := ob1_some e22
        refine wa_ast d_Mod_set_48 sh_313 e63 ?_
        cases e22
        exact k20
    refine wp_iload_n d_Mod_set_17 rfl rfl ?_
    refine wz_ne 27 d_Mod_set_18 rfl (fun h18 => ?_) (fun h18 => ?_)
    · replace e15 := inn e15 h18
      cases e15
      exact k13
    · replace e15 := ip e15 h18
      refine wp_aload_n d_Mod_set_21 rfl rfl ?_
      refine wp_iload_n d_Mod_set_22 rfl rfl ?_
      refine wp_iload_n d_Mod_set_23 rfl rfl ?_
      obtain ⟨M65, e66, e15⟩ := ob1_some e15
      refine wl_callV2 d_Mod_set_24 lc_Mod_hasGlue lv_Mod_145 rfl sh_312 rfl rfl ⟨rfl, rfl⟩ ⟨by decide, by decide⟩ ?_
      refine s_Mod_hasGlue (d := d + 1) e66 ?_
      cases e15
      exact k13
  obtain ⟨x67, e68, e2⟩ := ob1_some e2
  cases e2
  refine wp_aload_n d_Mod_set_5 rfl rfl ?_
  refine wp_iload_n d_Mod_set_6 rfl rfl ?_
  refine wp_iload_n d_Mod_set_7 rfl rfl ?_
  refine wp_iload_n d_Mod_set_8 rfl rfl ?_
  obtain ⟨v69, e70, e68⟩ := ob1_some e68
  refine wl_callV3 d_Mod_set_9 lc_Mod_canSet lv_Mod_142 rfl sh_312 rfl rfl ⟨rfl, rfl⟩ ⟨by decide, by decide⟩ ?_
  refine s_Mod_canSet (d := d) e70 ?_
  refine wc_ne 17 d_Mod_set_12 rfl (fun h12 => ?_) (fun h12 => ?_)
  · cases e68
    exact k9 (nb_t h12)
  · cases e68
    exact k7 (nb_f h12)
end S1411
