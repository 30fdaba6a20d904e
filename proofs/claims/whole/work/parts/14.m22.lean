/-! methods as functions: printed by program -/
section S1422
variable {X : mXs} {d z : Nat} {Q : Option Value → mH → Prop}
def F_Mod_keeps (v_ : Int32) (M : mM) : Option (Int32 × mM) :=
  ob1 (some (up M 312 54 ((M 312 54) + (nI 1)))) fun M1 =>
  if ¬ (¬ ((M1 312 52) = nI 0)) then
  ob1 (ra M1 343 2400 ((M1 312 54) - (nI 1))) fun v6 =>
  some (v6, M1)
  else
  ob1 (wa M1 343 2400 ((M1 312 54) - (nI 1)) v_) fun M4 =>
  some (v_, M4)
theorem s_Mod_keeps {v_ : Int32} {M : mM} {r : Int32} {M' : mM} (h : F_Mod_keeps v_ M = some (r, M')) (hq : Q (some (.int r)) (lay M')) : Sp X d f_Mod_keeps [.ref 312, .int v_] (lay M) Q := by
  refine Sp_of (by decide) rfl (Nat.le_of_ble_eq_true rfl) ?_
  refine wp_aload_n d_Mod_keeps_0 rfl rfl ?_
  refine wp_aload_n d_Mod_keeps_1 rfl rfl ?_
  refine wl_getI d_Mod_keeps_2 lf_Mod_470 sh_312 rfl rfl ?_
  refine wp_iconst d_Mod_keeps_5 (v := nI 1) rfl ?_
  refine wp_iadd d_Mod_keeps_6 ?_
  refine wl_put d_Mod_keeps_7 lp_Mod_470 sh_312 rfl ⟨rfl, rfl⟩ ?_
  obtain ⟨M1, e2, h⟩ := ob1_some h
  refine wx_M e2 ?_
  refine wp_aload_n d_Mod_keeps_10 rfl rfl ?_
  refine wl_getI d_Mod_keeps_11 lf_Mod_473 sh_312 rfl rfl ?_
  refine wz_ne 29 d_Mod_keeps_14 rfl (fun h14 => ?_) (fun h14 => ?_)
  · replace h := inn h (fun z => z h14)
    refine wp_aload_n d_Mod_keeps_29 rfl rfl ?_
    refine wl_getR d_Mod_keeps_30 lf_Mod_104 sh_312 rfl ?_
    refine wp_aload_n d_Mod_keeps_33 rfl rfl ?_
    refine wl_getI d_Mod_keeps_34 lf_Mod_470 sh_312 rfl rfl ?_
    refine wp_iconst d_Mod_keeps_37 (v := nI 1) rfl ?_
    refine wp_isub d_Mod_keeps_38 ?_
    refine wp_iload_n d_Mod_keeps_39 rfl rfl ?_
    obtain ⟨M4, e3, h⟩ := ob1_some h
    refine wa_ast d_Mod_keeps_40 sh_343 e3 ?_
    refine wp_iload_n d_Mod_keeps_41 rfl rfl ?_
    cases h
    exact wp_iret d_Mod_keeps_42 rfl rfl rfl hq
  · replace h := ip h (fun z => z h14)
    refine wp_aload_n d_Mod_keeps_17 rfl rfl ?_
    refine wl_getR d_Mod_keeps_18 lf_Mod_104 sh_312 rfl ?_
    refine wp_aload_n d_Mod_keeps_21 rfl rfl ?_
    refine wl_getI d_Mod_keeps_22 lf_Mod_470 sh_312 rfl rfl ?_
    refine wp_iconst d_Mod_keeps_25 (v := nI 1) rfl ?_
    refine wp_isub d_Mod_keeps_26 ?_
    obtain ⟨v6, e5, h⟩ := ob1_some h
    refine wa_ald d_Mod_keeps_27 sh_343 e5 ?_
    cases h
    exact wp_iret d_Mod_keeps_28 rfl rfl rfl hq
def L_Mod_keepsLaw_1 (z : Nat) : Nat → Int32 → mM → Option (mM)
  | 0, _, _ => none
  | n + 1, l_, M =>
    if l_ < (nI 16) then
    ob1 (ra M 320 48 l_) fun v9 =>
    ob2 (F_Mod_keeps v9 M) fun v10 M11 =>
    ob1 (wa M11 320 48 l_ v10) fun M14 =>
    ob1 (ra M14 321 48 l_) fun v16 =>
    ob2 (F_Mod_keeps v16 M14) fun v17 M18 =>
    ob1 (wa M18 321 48 l_ v17) fun M21 =>
    ob1 (ra M21 322 48 l_) fun v23 =>
    ob2 (F_Mod_keeps v23 M21) fun v24 M25 =>
    ob1 (wa M25 322 48 l_ v24) fun M28 =>
    ob1 (ra M28 323 48 l_) fun v30 =>
    ob2 (F_Mod_keeps v30 M28) fun v31 M32 =>
    ob1 (wa M32 323 48 l_ v31) fun M35 =>
    L_Mod_keepsLaw_1 z n (l_ + nI 1) M35
    else
    some (M)
def L_Mod_keepsLaw_2 (z : Nat) : Nat → Int32 → mM → Option (mM)
  | 0, _, _ => none
  | n + 1, i_, M =>
    if i_ < (nI 400) then
    ob1 (ra M 324 1200 i_) fun v38 =>
    ob2 (F_Mod_keeps v38 M) fun v39 M40 =>
    ob1 (wa M40 324 1200 i_ v39) fun M43 =>
    ob1 (ra M43 325 1200 i_) fun v45 =>
    ob2 (F_Mod_keeps v45 M43) fun v46 M47 =>
    ob1 (wa M47 325 1200 i_ v46) fun M50 =>
    L_Mod_keepsLaw_2 z n (i_ + nI 1) M50
    else
    some (M)
def F_Mod_keepsLaw (z : Nat) (M : mM) : Option mM :=
  ob1 (ra M 319 2 (nI 0)) fun v2 =>
  ob2 (F_Mod_keeps v2 M) fun v3 M4 =>
  ob1 (wa M4 319 2 (nI 0) v3) fun M7 =>
  ob1 (L_Mod_keepsLaw_1 z z (nI 0) M7) fun M36 =>
  ob1 (L_Mod_keepsLaw_2 z z (nI 0) M36) fun M51 =>
  some M51
theorem l_Mod_keepsLaw_1  {N' : mM} (K : ∀ u1 : Value, wp X (d + 1) f_Mod_keepsLaw (0, 0) 94 [.ref 312, u1] [] (lay N') Q) : ∀ (n : Nat) (l_ : Int32) (M : mM), L_Mod_keepsLaw_1 z n l_ M = some (N') → wp X (d + 1) f_Mod_keepsLaw (0, 0) 18 [.ref 312, .int l_] [] (lay M) Q := by
  intro n
  induction n with
  | zero => intro l_ M h; exact nn h
  | succ n ih =>
    intro l_ M h
    refine wp_iload_n d_Mod_keepsLaw_18 rfl rfl ?_
    refine wp_bipush d_Mod_keepsLaw_19 (v := nI 16) rfl ?_
    refine wq_icmp_ge 94 d_Mod_keepsLaw_21 rfl (fun h21 => ?_) (fun h21 => ?_)
    · replace h := inn h h21
      cases h
      exact K _
    · replace h := ip h h21
      refine wp_aload_n d_Mod_keepsLaw_24 rfl rfl ?_
      refine wl_getR d_Mod_keepsLaw_25 lf_Mod_31 sh_312 rfl ?_
      refine wp_iload_n d_Mod_keepsLaw_28 rfl rfl ?_
      refine wp_aload_n d_Mod_keepsLaw_29 rfl rfl ?_
      refine wp_aload_n d_Mod_keepsLaw_30 rfl rfl ?_
      refine wl_getR d_Mod_keepsLaw_31 lf_Mod_31 sh_312 rfl ?_
      refine wp_iload_n d_Mod_keepsLaw_34 rfl rfl ?_
      obtain ⟨v9, e8, h⟩ := ob1_some h
      refine wa_ald d_Mod_keepsLaw_35 sh_320 e8 ?_
      obtain ⟨v10, M11, e12, h⟩ := ob2_some h
      refine wl_callV1 d_Mod_keepsLaw_36 lc_Mod_keeps lv_Mod_476 rfl sh_312 rfl rfl ⟨rfl, rfl⟩ ⟨by decide, by decide⟩ ?_
      refine s_Mod_keeps (d := d) e12 ?_
      obtain ⟨M14, e13, h⟩ := ob1_some h
      refine wa_ast d_Mod_keepsLaw_39 sh_320 e13 ?_
      refine wp_aload_n d_Mod_keepsLaw_40 rfl rfl ?_
      refine wl_getR d_Mod_keepsLaw_41 lf_Mod_34 sh_312 rfl ?_
      refine wp_iload_n d_Mod_keepsLaw_44 rfl rfl ?_
      refine wp_aload_n d_Mod_keepsLaw_45 rfl rfl ?_
      refine wp_aload_n d_Mod_keepsLaw_46 rfl rfl ?_
      refine wl_getR d_Mod_keepsLaw_47 lf_Mod_34 sh_312 rfl ?_
      refine wp_iload_n d_Mod_keepsLaw_50 rfl rfl ?_
      obtain ⟨v16, e15, h⟩ := ob1_some h
      refine wa_ald d_Mod_keepsLaw_51 sh_321 e15 ?_
      obtain ⟨v17, M18, e19, h⟩ := ob2_some h
      refine wl_callV1 d_Mod_keepsLaw_52 lc_Mod_keeps lv_Mod_476 rfl sh_312 rfl rfl ⟨rfl, rfl⟩ ⟨by decide, by decide⟩ ?_
      refine s_Mod_keeps (d := d) e19 ?_
      obtain ⟨M21, e20, h⟩ := ob1_some h
      refine wa_ast d_Mod_keepsLaw_55 sh_321 e20 ?_
      refine wp_aload_n d_Mod_keepsLaw_56 rfl rfl ?_
      refine wl_getR d_Mod_keepsLaw_57 lf_Mod_37 sh_312 rfl ?_
      refine wp_iload_n d_Mod_keepsLaw_60 rfl rfl ?_
      refine wp_aload_n d_Mod_keepsLaw_61 rfl rfl ?_
      refine wp_aload_n d_Mod_keepsLaw_62 rfl rfl ?_
      refine wl_getR d_Mod_keepsLaw_63 lf_Mod_37 sh_312 rfl ?_
      refine wp_iload_n d_Mod_keepsLaw_66 rfl rfl ?_
      obtain ⟨v23, e22, h⟩ := ob1_some h
      refine wa_ald d_Mod_keepsLaw_67 sh_322 e22 ?_
      obtain ⟨v24, M25, e26, h⟩ := ob2_some h
      refine wl_callV1 d_Mod_keepsLaw_68 lc_Mod_keeps lv_Mod_476 rfl sh_312 rfl rfl ⟨rfl, rfl⟩ ⟨by decide, by decide⟩ ?_
      refine s_Mod_keeps (d := d) e26 ?_
      obtain ⟨M28, e27, h⟩ := ob1_some h
      refine wa_ast d_Mod_keepsLaw_71 sh_322 e27 ?_
      refine wp_aload_n d_Mod_keepsLaw_72 rfl rfl ?_
      refine wl_getR d_Mod_keepsLaw_73 lf_Mod_40 sh_312 rfl ?_
      refine wp_iload_n d_Mod_keepsLaw_76 rfl rfl ?_
      refine wp_aload_n d_Mod_keepsLaw_77 rfl rfl ?_
      refine wp_aload_n d_Mod_keepsLaw_78 rfl rfl ?_
      refine wl_getR d_Mod_keepsLaw_79 lf_Mod_40 sh_312 rfl ?_
      refine wp_iload_n d_Mod_keepsLaw_82 rfl rfl ?_
      obtain ⟨v30, e29, h⟩ := ob1_some h
      refine wa_ald d_Mod_keepsLaw_83 sh_323 e29 ?_
      obtain ⟨v31, M32, e33, h⟩ := ob2_some h
      refine wl_callV1 d_Mod_keepsLaw_84 lc_Mod_keeps lv_Mod_476 rfl sh_312 rfl rfl ⟨rfl, rfl⟩ ⟨by decide, by decide⟩ ?_
      refine s_Mod_keeps (d := d) e33 ?_
      obtain ⟨M35, e34, h⟩ := ob1_some h
      refine wa_ast d_Mod_keepsLaw_87 sh_323 e34 ?_
      refine wp_iinc d_Mod_keepsLaw_88 (v := l_ + nI 1) rfl rfl ?_
      refine wp_goto 18 d_Mod_keepsLaw_91 rfl ?_
      exact ih _ _ h
theorem l_Mod_keepsLaw_2  {N' : mM} (K : ∀ u1 : Value, wp X (d + 1) f_Mod_keepsLaw (0, 0) 141 [.ref 312, u1] [] (lay N') Q) : ∀ (n : Nat) (i_ : Int32) (M : mM), L_Mod_keepsLaw_2 z n i_ M = some (N') → wp X (d + 1) f_Mod_keepsLaw (0, 0) 96 [.ref 312, .int i_] [] (lay M) Q := by
  intro n
  induction n with
  | zero => intro i_ M h; exact nn h
  | succ n ih =>
    intro i_ M h
    refine wp_iload_n d_Mod_keepsLaw_96 rfl rfl ?_
    refine wp_sipush d_Mod_keepsLaw_97 (v := nI 400) rfl ?_
    refine wq_icmp_ge 141 d_Mod_keepsLaw_100 rfl (fun h100 => ?_) (fun h100 => ?_)
    · replace h := inn h h100
      cases h
      exact K _
    · replace h := ip h h100
      refine wp_aload_n d_Mod_keepsLaw_103 rfl rfl ?_
      refine wl_getR d_Mod_keepsLaw_104 lf_Mod_43 sh_312 rfl ?_
      refine wp_iload_n d_Mod_keepsLaw_107 rfl rfl ?_
      refine wp_aload_n d_Mod_keepsLaw_108 rfl rfl ?_
      refine wp_aload_n d_Mod_keepsLaw_109 rfl rfl ?_
      refine wl_getR d_Mod_keepsLaw_110 lf_Mod_43 sh_312 rfl ?_
      refine wp_iload_n d_Mod_keepsLaw_113 rfl rfl ?_
      obtain ⟨v38, e37, h⟩ := ob1_some h
      refine wa_ald d_Mod_keepsLaw_114 sh_324 e37 ?_
      obtain ⟨v39, M40, e41, h⟩ := ob2_some h
      refine wl_callV1 d_Mod_keepsLaw_115 lc_Mod_keeps lv_Mod_476 rfl sh_312 rfl rfl ⟨rfl, rfl⟩ ⟨by decide, by decide⟩ ?_
      refine s_Mod_keeps (d := d) e41 ?_
      obtain ⟨M43, e42, h⟩ := ob1_some h
      refine wa_ast d_Mod_keepsLaw_118 sh_324 e42 ?_
      refine wp_aload_n d_Mod_keepsLaw_119 rfl rfl ?_
      refine wl_getR d_Mod_keepsLaw_120 lf_Mod_46 sh_312 rfl ?_
      refine wp_iload_n d_Mod_keepsLaw_123 rfl rfl ?_
      refine wp_aload_n d_Mod_keepsLaw_124 rfl rfl ?_
      refine wp_aload_n d_Mod_keepsLaw_125 rfl rfl ?_
      refine wl_getR d_Mod_keepsLaw_126 lf_Mod_46 sh_312 rfl ?_
      refine wp_iload_n d_Mod_keepsLaw_129 rfl rfl ?_
      obtain ⟨v45, e44, h⟩ := ob1_some h
      refine wa_ald d_Mod_keepsLaw_130 sh_325 e44 ?_
      obtain ⟨v46, M47, e48, h⟩ := ob2_some h
      refine wl_callV1 d_Mod_keepsLaw_131 lc_Mod_keeps lv_Mod_476 rfl sh_312 rfl rfl ⟨rfl, rfl⟩ ⟨by decide, by decide⟩ ?_
      refine s_Mod_keeps (d := d) e48 ?_
      obtain ⟨M50, e49, h⟩ := ob1_some h
      refine wa_ast d_Mod_keepsLaw_134 sh_325 e49 ?_
      refine wp_iinc d_Mod_keepsLaw_135 (v := i_ + nI 1) rfl rfl ?_
      refine wp_goto 96 d_Mod_keepsLaw_138 rfl ?_
      exact ih _ _ h
theorem s_Mod_keepsLaw {M : mM} {M' : mM} (h : F_Mod_keepsLaw z M = some M') (hq : Q none (lay M')) : Sp X (d + 1) f_Mod_keepsLaw [.ref 312] (lay M) Q := by
  refine Sp_of (by decide) rfl (Nat.le_of_ble_eq_true rfl) ?_
  refine wp_aload_n d_Mod_keepsLaw_0 rfl rfl ?_
  refine wl_getR d_Mod_keepsLaw_1 lf_Mod_28 sh_312 rfl ?_
  refine wp_iconst d_Mod_keepsLaw_4 (v := nI 0) rfl ?_
  refine wp_aload_n d_Mod_keepsLaw_5 rfl rfl ?_
  refine wp_aload_n d_Mod_keepsLaw_6 rfl rfl ?_
  refine wl_getR d_Mod_keepsLaw_7 lf_Mod_28 sh_312 rfl ?_
  refine wp_iconst d_Mod_keepsLaw_10 (v := nI 0) rfl ?_
  obtain ⟨v2, e1, h⟩ := ob1_some h
  refine wa_ald d_Mod_keepsLaw_11 sh_319 e1 ?_
  obtain ⟨v3, M4, e5, h⟩ := ob2_some h
  refine wl_callV1 d_Mod_keepsLaw_12 lc_Mod_keeps lv_Mod_476 rfl sh_312 rfl rfl ⟨rfl, rfl⟩ ⟨by decide, by decide⟩ ?_
  refine s_Mod_keeps (d := d) e5 ?_
  obtain ⟨M7, e6, h⟩ := ob1_some h
  refine wa_ast d_Mod_keepsLaw_15 sh_319 e6 ?_
  refine wp_iconst d_Mod_keepsLaw_16 (v := nI 0) rfl ?_
  refine wp_istore_n d_Mod_keepsLaw_17 rfl (by decide) ?_
  obtain ⟨M36, e53, h⟩ := ob1_some h
  refine l_Mod_keepsLaw_1 ?_ _ _ _ e53
  intro u1
  refine wp_iconst d_Mod_keepsLaw_94 (v := nI 0) rfl ?_
  refine wp_istore_n d_Mod_keepsLaw_95 rfl (by decide) ?_
  obtain ⟨M51, e52, h⟩ := ob1_some h
  refine l_Mod_keepsLaw_2 ?_ _ _ _ e52
  intro u1
  cases h
  exact wp_ret d_Mod_keepsLaw_141 rfl rfl hq
def L_Mod_keepsTold_1 (z : Nat) : Nat → Int32 → mM → Option (mM)
  | 0, _, _ => none
  | n + 1, k_, M =>
    if k_ < (nI 8) then
    ob1 (ra M 333 8 k_) fun v46 =>
    ob2 (F_Mod_keeps v46 M) fun v47 M48 =>
    ob1 (wa M48 333 8 k_ v47) fun M51 =>
    ob1 (ra M51 337 8 k_) fun v53 =>
    ob2 (F_Mod_keeps v53 M51) fun v54 M55 =>
    ob1 (wa M55 337 8 k_ v54) fun M58 =>
    L_Mod_keepsTold_1 z n (k_ + nI 1) M58
    else
    some (M)
def L_Mod_keepsTold_2 (z : Nat) : Nat → Int32 → mM → Option (mM)
  | 0, _, _ => none
  | n + 1, k_, M =>
    if k_ < (nI 6) then
    ob1 (ra M 335 6 k_) fun v61 =>
    ob2 (F_Mod_keeps v61 M) fun v62 M63 =>
    ob1 (wa M63 335 6 k_ v62) fun M66 =>
    ob1 (ra M66 336 6 k_) fun v68 =>
    ob2 (F_Mod_keeps v68 M66) fun v69 M70 =>
    ob1 (wa M70 336 6 k_ v69) fun M73 =>
    L_Mod_keepsTold_2 z n (k_ + nI 1) M73
    else
    some (M)
def L_Mod_keepsTold_3 (z : Nat) : Nat → Int32 → mM → Option (mM)
  | 0, _, _ => none
  | n + 1, k_, M =>
    if k_ < (nI 16) then
    ob1 (ra M 339 16 k_) fun v76 =>
    ob2 (F_Mod_keeps v76 M) fun v77 M78 =>
    ob1 (wa M78 339 16 k_ v77) fun M81 =>
    L_Mod_keepsTold_3 z n (k_ + nI 1) M81
    else
    some (M)
def L_Mod_keepsTold_4 (z : Nat) : Nat → Int32 → mM → Option (mM)
  | 0, _, _ => none
  | n + 1, k_, M =>
    if k_ < (nI 12) then
    ob1 (ra M 329 24 k_) fun v84 =>
    ob2 (F_Mod_keeps v84 M) fun v85 M86 =>
    ob1 (wa M86 329 24 k_ v85) fun M89 =>
    L_Mod_keepsTold_4 z n (k_ + nI 1) M89
    else
    some (M)
def L_Mod_keepsTold_5 (z : Nat) : Nat → Int32 → mM → Option (mM)
  | 0, _, _ => none
  | n + 1, k_, M =>
    if k_ < (nI 80) then
    ob1 (ra M 327 160 k_) fun v92 =>
    ob2 (F_Mod_keeps v92 M) fun v93 M94 =>
    ob1 (wa M94 327 160 k_ v93) fun M97 =>
    L_Mod_keepsTold_5 z n (k_ + nI 1) M97
    else
    some (M)
def L_Mod_keepsTold_6 (z : Nat) : Nat → Int32 → mM → Option (mM)
  | 0, _, _ => none
  | n + 1, k_, M =>
    if k_ < (nI 64) then
    ob1 (ra M 328 128 k_) fun v100 =>
    ob2 (F_Mod_keeps v100 M) fun v101 M102 =>
    ob1 (wa M102 328 128 k_ v101) fun M105 =>
    L_Mod_keepsTold_6 z n (k_ + nI 1) M105
    else
    some (M)
def F_Mod_keepsTold (z : Nat) (M : mM) : Option mM :=
  ob2 (F_Mod_keeps (M 312 30) M) fun v1 M2 =>
  ob1 (some (up M2 312 30 v1)) fun M4 =>
  ob2 (F_Mod_keeps (M4 312 32) M4) fun v6 M7 =>
  ob1 (some (up M7 312 32 v6)) fun M9 =>
  ob2 (F_Mod_keeps (M9 312 34) M9) fun v11 M12 =>
  ob1 (some (up M12 312 34 v11)) fun M14 =>
  ob2 (F_Mod_keeps (M14 312 39) M14) fun v16 M17 =>
  ob1 (some (up M17 312 39 v16)) fun M19 =>
  ob2 (F_Mod_keeps (M19 312 42) M19) fun v21 M22 =>
  ob1 (some (up M22 312 42 v21)) fun M24 =>
  ob2 (F_Mod_keeps (M24 312 45) M24) fun v26 M27 =>
  ob1 (some (up M27 312 45 v26)) fun M29 =>
  ob1 (ra M29 338 2 (nI 0)) fun v32 =>
  ob2 (F_Mod_keeps v32 M29) fun v33 M34 =>
  ob1 (wa M34 338 2 (nI 0) v33) fun M37 =>
  ob1 (ra M37 338 2 (nI 1)) fun v39 =>
  ob2 (F_Mod_keeps v39 M37) fun v40 M41 =>
  ob1 (wa M41 338 2 (nI 1) v40) fun M44 =>
  ob1 (L_Mod_keepsTold_1 z z (nI 0) M44) fun M59 =>
  ob1 (L_Mod_keepsTold_2 z z (nI 0) M59) fun M74 =>
  ob1 (L_Mod_keepsTold_3 z z (nI 0) M74) fun M82 =>
  ob1 (L_Mod_keepsTold_4 z z (nI 0) M82) fun M90 =>
  ob1 (L_Mod_keepsTold_5 z z (nI 0) M90) fun M98 =>
  ob1 (L_Mod_keepsTold_6 z z (nI 0) M98) fun M106 =>
  some M106
theorem l_Mod_keepsTold_1  {N' : mM} (K : ∀ u1 : Value, wp X (d + 1) f_Mod_keepsTold (0, 0) 150 [.ref 312, u1] [] (lay N') Q) : ∀ (n : Nat) (k_ : Int32) (M : mM), L_Mod_keepsTold_1 z n k_ M = some (N') → wp X (d + 1) f_Mod_keepsTold (0, 0) 106 [.ref 312, .int k_] [] (lay M) Q := by
  intro n
  induction n with
  | zero => intro k_ M h; exact nn h
  | succ n ih =>
    intro k_ M h
    refine wp_iload_n d_Mod_keepsTold_106 rfl rfl ?_
    refine wp_bipush d_Mod_keepsTold_107 (v := nI 8) rfl ?_
    refine wq_icmp_ge 150 d_Mod_keepsTold_109 rfl (fun h109 => ?_) (fun h109 => ?_)
    · replace h := inn h h109
      cases h
      exact K _
    · replace h := ip h h109
      refine wp_aload_n d_Mod_keepsTold_112 rfl rfl ?_
      refine wl_getR d_Mod_keepsTold_113 lf_Mod_74 sh_312 rfl ?_
      refine wp_iload_n d_Mod_keepsTold_116 rfl rfl ?_
      refine wp_aload_n d_Mod_keepsTold_117 rfl rfl ?_
      refine wp_aload_n d_Mod_keepsTold_118 rfl rfl ?_
      refine wl_getR d_Mod_keepsTold_119 lf_Mod_74 sh_312 rfl ?_
      refine wp_iload_n d_Mod_keepsTold_122 rfl rfl ?_
      obtain ⟨v46, e45, h⟩ := ob1_some h
      refine wa_ald d_Mod_keepsTold_123 sh_333 e45 ?_
      obtain ⟨v47, M48, e49, h⟩ := ob2_some h
      refine wl_callV1 d_Mod_keepsTold_124 lc_Mod_keeps lv_Mod_476 rfl sh_312 rfl rfl ⟨rfl, rfl⟩ ⟨by decide, by decide⟩ ?_
      refine s_Mod_keeps (d := d) e49 ?_
      obtain ⟨M51, e50, h⟩ := ob1_some h
      refine wa_ast d_Mod_keepsTold_127 sh_333 e50 ?_
      refine wp_aload_n d_Mod_keepsTold_128 rfl rfl ?_
      refine wl_getR d_Mod_keepsTold_129 lf_Mod_86 sh_312 rfl ?_
      refine wp_iload_n d_Mod_keepsTold_132 rfl rfl ?_
      refine wp_aload_n d_Mod_keepsTold_133 rfl rfl ?_
      refine wp_aload_n d_Mod_keepsTold_134 rfl rfl ?_
      refine wl_getR d_Mod_keepsTold_135 lf_Mod_86 sh_312 rfl ?_
      refine wp_iload_n d_Mod_keepsTold_138 rfl rfl ?_
      obtain ⟨v53, e52, h⟩ := ob1_some h
      refine wa_ald d_Mod_keepsTold_139 sh_337 e52 ?_
      obtain ⟨v54, M55, e56, h⟩ := ob2_some h
      refine wl_callV1 d_Mod_keepsTold_140 lc_Mod_keeps lv_Mod_476 rfl sh_312 rfl rfl ⟨rfl, rfl⟩ ⟨by decide, by decide⟩ ?_
      refine s_Mod_keeps (d := d) e56 ?_
      obtain ⟨M58, e57, h⟩ := ob1_some h
      refine wa_ast d_Mod_keepsTold_143 sh_337 e57 ?_
      refine wp_iinc d_Mod_keepsTold_144 (v := k_ + nI 1) rfl rfl ?_
      refine wp_goto 106 d_Mod_keepsTold_147 rfl ?_
      exact ih _ _ h
theorem l_Mod_keepsTold_2  {N' : mM} (K : ∀ u1 : Value, wp X (d + 1) f_Mod_keepsTold (0, 0) 196 [.ref 312, u1] [] (lay N') Q) : ∀ (n : Nat) (k_ : Int32) (M : mM), L_Mod_keepsTold_2 z n k_ M = some (N') → wp X (d + 1) f_Mod_keepsTold (0, 0) 152 [.ref 312, .int k_] [] (lay M) Q := by
  intro n
  induction n with
  | zero => intro k_ M h; exact nn h
  | succ n ih =>
    intro k_ M h
    refine wp_iload_n d_Mod_keepsTold_152 rfl rfl ?_
    refine wp_bipush d_Mod_keepsTold_153 (v := nI 6) rfl ?_
    refine wq_icmp_ge 196 d_Mod_keepsTold_155 rfl (fun h155 => ?_) (fun h155 => ?_)
    · replace h := inn h h155
      cases h
      exact K _
    · replace h := ip h h155
      refine wp_aload_n d_Mod_keepsTold_158 rfl rfl ?_
      refine wl_getR d_Mod_keepsTold_159 lf_Mod_80 sh_312 rfl ?_
      refine wp_iload_n d_Mod_keepsTold_162 rfl rfl ?_
      refine wp_aload_n d_Mod_keepsTold_163 rfl rfl ?_
      refine wp_aload_n d_Mod_keepsTold_164 rfl rfl ?_
      refine wl_getR d_Mod_keepsTold_165 lf_Mod_80 sh_312 rfl ?_
      refine wp_iload_n d_Mod_keepsTold_168 rfl rfl ?_
      obtain ⟨v61, e60, h⟩ := ob1_some h
      refine wa_ald d_Mod_keepsTold_169 sh_335 e60 ?_
      obtain ⟨v62, M63, e64, h⟩ := ob2_some h
      refine wl_callV1 d_Mod_keepsTold_170 lc_Mod_keeps lv_Mod_476 rfl sh_312 rfl rfl ⟨rfl, rfl⟩ ⟨by decide, by decide⟩ ?_
      refine s_Mod_keeps (d := d) e64 ?_
      obtain ⟨M66, e65, h⟩ := ob1_some h
      refine wa_ast d_Mod_keepsTold_173 sh_335 e65 ?_
      refine wp_aload_n d_Mod_keepsTold_174 rfl rfl ?_
      refine wl_getR d_Mod_keepsTold_175 lf_Mod_83 sh_312 rfl ?_
      refine wp_iload_n d_Mod_keepsTold_178 rfl rfl ?_
      refine wp_aload_n d_Mod_keepsTold_179 rfl rfl ?_
      refine wp_aload_n d_Mod_keepsTold_180 rfl rfl ?_
      refine wl_getR d_Mod_keepsTold_181 lf_Mod_83 sh_312 rfl ?_
      refine wp_iload_n d_Mod_keepsTold_184 rfl rfl ?_
      obtain ⟨v68, e67, h⟩ := ob1_some h
      refine wa_ald d_Mod_keepsTold_185 sh_336 e67 ?_
      obtain ⟨v69, M70, e71, h⟩ := ob2_some h
      refine wl_callV1 d_Mod_keepsTold_186 lc_Mod_keeps lv_Mod_476 rfl sh_312 rfl rfl ⟨rfl, rfl⟩ ⟨by decide, by decide⟩ ?_
      refine s_Mod_keeps (d := d) e71 ?_
      obtain ⟨M73, e72, h⟩ := ob1_some h
      refine wa_ast d_Mod_keepsTold_189 sh_336 e72 ?_
      refine wp_iinc d_Mod_keepsTold_190 (v := k_ + nI 1) rfl rfl ?_
      refine wp_goto 152 d_Mod_keepsTold_193 rfl ?_
      exact ih _ _ h
theorem l_Mod_keepsTold_3  {N' : mM} (K : ∀ u1 : Value, wp X (d + 1) f_Mod_keepsTold (0, 0) 226 [.ref 312, u1] [] (lay N') Q) : ∀ (n : Nat) (k_ : Int32) (M : mM), L_Mod_keepsTold_3 z n k_ M = some (N') → wp X (d + 1) f_Mod_keepsTold (0, 0) 198 [.ref 312, .int k_] [] (lay M) Q := by
  intro n
  induction n with
  | zero => intro k_ M h; exact nn h
  | succ n ih =>
    intro k_ M h
    refine wp_iload_n d_Mod_keepsTold_198 rfl rfl ?_
    refine wp_bipush d_Mod_keepsTold_199 (v := nI 16) rfl ?_
    refine wq_icmp_ge 226 d_Mod_keepsTold_201 rfl (fun h201 => ?_) (fun h201 => ?_)
    · replace h := inn h h201
      cases h
      exact K _
    · replace h := ip h h201
      refine wp_aload_n d_Mod_keepsTold_204 rfl rfl ?_
      refine wl_getR d_Mod_keepsTold_205 lf_Mod_92 sh_312 rfl ?_
      refine wp_iload_n d_Mod_keepsTold_208 rfl rfl ?_
      refine wp_aload_n d_Mod_keepsTold_209 rfl rfl ?_
      refine wp_aload_n d_Mod_keepsTold_210 rfl rfl ?_
      refine wl_getR d_Mod_keepsTold_211 lf_Mod_92 sh_312 rfl ?_
      refine wp_iload_n d_Mod_keepsTold_214 rfl rfl ?_
      obtain ⟨v76, e75, h⟩ := ob1_some h
      refine wa_ald d_Mod_keepsTold_215 sh_339 e75 ?_
      obtain ⟨v77, M78, e79, h⟩ := ob2_some h
      refine wl_callV1 d_Mod_keepsTold_216 lc_Mod_keeps lv_Mod_476 rfl sh_312 rfl rfl ⟨rfl, rfl⟩ ⟨by decide, by decide⟩ ?_
      refine s_Mod_keeps (d := d) e79 ?_
      obtain ⟨M81, e80, h⟩ := ob1_some h
      refine wa_ast d_Mod_keepsTold_219 sh_339 e80 ?_
      refine wp_iinc d_Mod_keepsTold_220 (v := k_ + nI 1) rfl rfl ?_
      refine wp_goto 198 d_Mod_keepsTold_223 rfl ?_
      exact ih _ _ h
theorem l_Mod_keepsTold_4  {N' : mM} (K : ∀ u1 : Value, wp X (d + 1) f_Mod_keepsTold (0, 0) 256 [.ref 312, u1] [] (lay N') Q) : ∀ (n : Nat) (k_ : Int32) (M : mM), L_Mod_keepsTold_4 z n k_ M = some (N') → wp X (d + 1) f_Mod_keepsTold (0, 0) 228 [.ref 312, .int k_] [] (lay M) Q := by
  intro n
  induction n with
  | zero => intro k_ M h; exact nn h
  | succ n ih =>
    intro k_ M h
    refine wp_iload_n d_Mod_keepsTold_228 rfl rfl ?_
    refine wp_bipush d_Mod_keepsTold_229 (v := nI 12) rfl ?_
    refine wq_icmp_ge 256 d_Mod_keepsTold_231 rfl (fun h231 => ?_) (fun h231 => ?_)
    · replace h := inn h h231
      cases h
      exact K _
    · replace h := ip h h231
      refine wp_aload_n d_Mod_keepsTold_234 rfl rfl ?_
      refine wl_getR d_Mod_keepsTold_235 lf_Mod_62 sh_312 rfl ?_
      refine wp_iload_n d_Mod_keepsTold_238 rfl rfl ?_
      refine wp_aload_n d_Mod_keepsTold_239 rfl rfl ?_
      refine wp_aload_n d_Mod_keepsTold_240 rfl rfl ?_
      refine wl_getR d_Mod_keepsTold_241 lf_Mod_62 sh_312 rfl ?_
      refine wp_iload_n d_Mod_keepsTold_244 rfl rfl ?_
      obtain ⟨v84, e83, h⟩ := ob1_some h
      refine wa_ald d_Mod_keepsTold_245 sh_329 e83 ?_
      obtain ⟨v85, M86, e87, h⟩ := ob2_some h
      refine wl_callV1 d_Mod_keepsTold_246 lc_Mod_keeps lv_Mod_476 rfl sh_312 rfl rfl ⟨rfl, rfl⟩ ⟨by decide, by decide⟩ ?_
      refine s_Mod_keeps (d := d) e87 ?_
      obtain ⟨M89, e88, h⟩ := ob1_some h
      refine wa_ast d_Mod_keepsTold_249 sh_329 e88 ?_
      refine wp_iinc d_Mod_keepsTold_250 (v := k_ + nI 1) rfl rfl ?_
      refine wp_goto 228 d_Mod_keepsTold_253 rfl ?_
      exact ih _ _ h
theorem l_Mod_keepsTold_5  {N' : mM} (K : ∀ u1 : Value, wp X (d + 1) f_Mod_keepsTold (0, 0) 286 [.ref 312, u1] [] (lay N') Q) : ∀ (n : Nat) (k_ : Int32) (M : mM), L_Mod_keepsTold_5 z n k_ M = some (N') → wp X (d + 1) f_Mod_keepsTold (0, 0) 258 [.ref 312, .int k_] [] (lay M) Q := by
  intro n
  induction n with
  | zero => intro k_ M h; exact nn h
  | succ n ih =>
    intro k_ M h
    refine wp_iload_n d_Mod_keepsTold_258 rfl rfl ?_
    refine wp_bipush d_Mod_keepsTold_259 (v := nI 80) rfl ?_
    refine wq_icmp_ge 286 d_Mod_keepsTold_261 rfl (fun h261 => ?_) (fun h261 => ?_)
    · replace h := inn h h261
      cases h
      exact K _
    · replace h := ip h h261
      refine wp_aload_n d_Mod_keepsTold_264 rfl rfl ?_
      refine wl_getR d_Mod_keepsTold_265 lf_Mod_56 sh_312 rfl ?_
      refine wp_iload_n d_Mod_keepsTold_268 rfl rfl ?_
      refine wp_aload_n d_Mod_keepsTold_269 rfl rfl ?_
      refine wp_aload_n d_Mod_keepsTold_270 rfl rfl ?_
      refine wl_getR d_Mod_keepsTold_271 lf_Mod_56 sh_312 rfl ?_
      refine wp_iload_n d_Mod_keepsTold_274 rfl rfl ?_
      obtain ⟨v92, e91, h⟩ := ob1_some h
      refine wa_ald d_Mod_keepsTold_275 sh_327 e91 ?_
      obtain ⟨v93, M94, e95, h⟩ := ob2_some h
      refine wl_callV1 d_Mod_keepsTold_276 lc_Mod_keeps lv_Mod_476 rfl sh_312 rfl rfl ⟨rfl, rfl⟩ ⟨by decide, by decide⟩ ?_
      refine s_Mod_keeps (d := d) e95 ?_
      obtain ⟨M97, e96, h⟩ := ob1_some h
      refine wa_ast d_Mod_keepsTold_279 sh_327 e96 ?_
      refine wp_iinc d_Mod_keepsTold_280 (v := k_ + nI 1) rfl rfl ?_
      refine wp_goto 258 d_Mod_keepsTold_283 rfl ?_
      exact ih _ _ h
theorem l_Mod_keepsTold_6  {N' : mM} (K : ∀ u1 : Value, wp X (d + 1) f_Mod_keepsTold (0, 0) 316 [.ref 312, u1] [] (lay N') Q) : ∀ (n : Nat) (k_ : Int32) (M : mM), L_Mod_keepsTold_6 z n k_ M = some (N') → wp X (d + 1) f_Mod_keepsTold (0, 0) 288 [.ref 312, .int k_] [] (lay M) Q := by
  intro n
  induction n with
  | zero => intro k_ M h; exact nn h
  | succ n ih =>
    intro k_ M h
    refine wp_iload_n d_Mod_keepsTold_288 rfl rfl ?_
    refine wp_bipush d_Mod_keepsTold_289 (v := nI 64) rfl ?_
    refine wq_icmp_ge 316 d_Mod_keepsTold_291 rfl (fun h291 => ?_) (fun h291 => ?_)
    · replace h := inn h h291
      cases h
      exact K _
    · replace h := ip h h291
      refine wp_aload_n d_Mod_keepsTold_294 rfl rfl ?_
      refine wl_getR d_Mod_keepsTold_295 lf_Mod_59 sh_312 rfl ?_
      refine wp_iload_n d_Mod_keepsTold_298 rfl rfl ?_
      refine wp_aload_n d_Mod_keepsTold_299 rfl rfl ?_
      refine wp_aload_n d_Mod_keepsTold_300 rfl rfl ?_
      refine wl_getR d_Mod_keepsTold_301 lf_Mod_59 sh_312 rfl ?_
      refine wp_iload_n d_Mod_keepsTold_304 rfl rfl ?_
      obtain ⟨v100, e99, h⟩ := ob1_some h
      refine wa_ald d_Mod_keepsTold_305 sh_328 e99 ?_
      obtain ⟨v101, M102, e103, h⟩ := ob2_some h
      refine wl_callV1 d_Mod_keepsTold_306 lc_Mod_keeps lv_Mod_476 rfl sh_312 rfl rfl ⟨rfl, rfl⟩ ⟨by decide, by decide⟩ ?_
      refine s_Mod_keeps (d := d) e103 ?_
      obtain ⟨M105, e104, h⟩ := ob1_some h
      refine wa_ast d_Mod_keepsTold_309 sh_328 e104 ?_
      refine wp_iinc d_Mod_keepsTold_310 (v := k_ + nI 1) rfl rfl ?_
      refine wp_goto 288 d_Mod_keepsTold_313 rfl ?_
      exact ih _ _ h
theorem s_Mod_keepsTold {M : mM} {M' : mM} (h : F_Mod_keepsTold z M = some M') (hq : Q none (lay M')) : Sp X (d + 1) f_Mod_keepsTold [.ref 312] (lay M) Q := by
  refine Sp_of (by decide) rfl (Nat.le_of_ble_eq_true rfl) ?_
  refine wp_aload_n d_Mod_keepsTold_0 rfl rfl ?_
  refine wp_aload_n d_Mod_keepsTold_1 rfl rfl ?_
  refine wp_aload_n d_Mod_keepsTold_2 rfl rfl ?_
  refine wl_getI d_Mod_keepsTold_3 lf_Mod_282 sh_312 rfl rfl ?_
  obtain ⟨v1, M2, e3, h⟩ := ob2_some h
  refine wl_callV1 d_Mod_keepsTold_6 lc_Mod_keeps lv_Mod_476 rfl sh_312 rfl rfl ⟨rfl, rfl⟩ ⟨by decide, by decide⟩ ?_
  refine s_Mod_keeps (d := d) e3 ?_
  refine wl_put d_Mod_keepsTold_9 lp_Mod_282 sh_312 rfl ⟨rfl, rfl⟩ ?_
  obtain ⟨M4, e5, h⟩ := ob1_some h
  refine wx_M e5 ?_
  refine wp_aload_n d_Mod_keepsTold_12 rfl rfl ?_
  refine wp_aload_n d_Mod_keepsTold_13 rfl rfl ?_
  refine wp_aload_n d_Mod_keepsTold_14 rfl rfl ?_
  refine wl_getI d_Mod_keepsTold_15 lf_Mod_285 sh_312 rfl rfl ?_
  obtain ⟨v6, M7, e8, h⟩ := ob2_some h
  refine wl_callV1 d_Mod_keepsTold_18 lc_Mod_keeps lv_Mod_476 rfl sh_312 rfl rfl ⟨rfl, rfl⟩ ⟨by decide, by decide⟩ ?_
  refine s_Mod_keeps (d := d) e8 ?_
  refine wl_put d_Mod_keepsTold_21 lp_Mod_285 sh_312 rfl ⟨rfl, rfl⟩ ?_
  obtain ⟨M9, e10, h⟩ := ob1_some h
  refine wx_M e10 ?_
  refine wp_aload_n d_Mod_keepsTold_24 rfl rfl ?_
  refine wp_aload_n d_Mod_keepsTold_25 rfl rfl ?_
  refine wp_aload_n d_Mod_keepsTold_26 rfl rfl ?_
  refine wl_getI d_Mod_keepsTold_27 lf_Mod_279 sh_312 rfl rfl ?_
  obtain ⟨v11, M12, e13, h⟩ := ob2_some h
  refine wl_callV1 d_Mod_keepsTold_30 lc_Mod_keeps lv_Mod_476 rfl sh_312 rfl rfl ⟨rfl, rfl⟩ ⟨by decide, by decide⟩ ?_
  refine s_Mod_keeps (d := d) e13 ?_
  refine wl_put d_Mod_keepsTold_33 lp_Mod_279 sh_312 rfl ⟨rfl, rfl⟩ ?_
  obtain ⟨M14, e15, h⟩ := ob1_some h
  refine wx_M e15 ?_
  refine wp_aload_n d_Mod_keepsTold_36 rfl rfl ?_
  refine wp_aload_n d_Mod_keepsTold_37 rfl rfl ?_
  refine wp_aload_n d_Mod_keepsTold_38 rfl rfl ?_
  refine wl_getI d_Mod_keepsTold_39 lf_Mod_404 sh_312 rfl rfl ?_
  obtain ⟨v16, M17, e18, h⟩ := ob2_some h
  refine wl_callV1 d_Mod_keepsTold_42 lc_Mod_keeps lv_Mod_476 rfl sh_312 rfl rfl ⟨rfl, rfl⟩ ⟨by decide, by decide⟩ ?_
  refine s_Mod_keeps (d := d) e18 ?_
  refine wl_put d_Mod_keepsTold_45 lp_Mod_404 sh_312 rfl ⟨rfl, rfl⟩ ?_
  obtain ⟨M19, e20, h⟩ := ob1_some h
  refine wx_M e20 ?_
  refine wp_aload_n d_Mod_keepsTold_48 rfl rfl ?_
  refine wp_aload_n d_Mod_keepsTold_49 rfl rfl ?_
  refine wp_aload_n d_Mod_keepsTold_50 rfl rfl ?_
  refine wl_getI d_Mod_keepsTold_51 lf_Mod_419 sh_312 rfl rfl ?_
  obtain ⟨v21, M22, e23, h⟩ := ob2_some h
  refine wl_callV1 d_Mod_keepsTold_54 lc_Mod_keeps lv_Mod_476 rfl sh_312 rfl rfl ⟨rfl, rfl⟩ ⟨by decide, by decide⟩ ?_
  refine s_Mod_keeps (d := d) e23 ?_
  refine wl_put d_Mod_keepsTold_57 lp_Mod_419 sh_312 rfl ⟨rfl, rfl⟩ ?_
  obtain ⟨M24, e25, h⟩ := ob1_some h
  refine wx_M e25 ?_
  refine wp_aload_n d_Mod_keepsTold_60 rfl rfl ?_
  refine wp_aload_n d_Mod_keepsTold_61 rfl rfl ?_
  refine wp_aload_n d_Mod_keepsTold_62 rfl rfl ?_
  refine wl_getI d_Mod_keepsTold_63 lf_Mod_441 sh_312 rfl rfl ?_
  obtain ⟨v26, M27, e28, h⟩ := ob2_some h
  refine wl_callV1 d_Mod_keepsTold_66 lc_Mod_keeps lv_Mod_476 rfl sh_312 rfl rfl ⟨rfl, rfl⟩ ⟨by decide, by decide⟩ ?_
  refine s_Mod_keeps (d := d) e28 ?_
  refine wl_put d_Mod_keepsTold_69 lp_Mod_441 sh_312 rfl ⟨rfl, rfl⟩ ?_
  obtain ⟨M29, e30, h⟩ := ob1_some h
  refine wx_M e30 ?_
  refine wp_aload_n d_Mod_keepsTold_72 rfl rfl ?_
  refine wl_getR d_Mod_keepsTold_73 lf_Mod_89 sh_312 rfl ?_
  refine wp_iconst d_Mod_keepsTold_76 (v := nI 0) rfl ?_
  refine wp_aload_n d_Mod_keepsTold_77 rfl rfl ?_
  refine wp_aload_n d_Mod_keepsTold_78 rfl rfl ?_
  refine wl_getR d_Mod_keepsTold_79 lf_Mod_89 sh_312 rfl ?_
  refine wp_iconst d_Mod_keepsTold_82 (v := nI 0) rfl ?_
  obtain ⟨v32, e31, h⟩ := ob1_some h
  refine wa_ald d_Mod_keepsTold_83 sh_338 e31 ?_
  obtain ⟨v33, M34, e35, h⟩ := ob2_some h
  refine wl_callV1 d_Mod_keepsTold_84 lc_Mod_keeps lv_Mod_476 rfl sh_312 rfl rfl ⟨rfl, rfl⟩ ⟨by decide, by decide⟩ ?_
  refine s_Mod_keeps (d := d) e35 ?_
  obtain ⟨M37, e36, h⟩ := ob1_some h
  refine wa_ast d_Mod_keepsTold_87 sh_338 e36 ?_
  refine wp_aload_n d_Mod_keepsTold_88 rfl rfl ?_
  refine wl_getR d_Mod_keepsTold_89 lf_Mod_89 sh_312 rfl ?_
  refine wp_iconst d_Mod_keepsTold_92 (v := nI 1) rfl ?_
  refine wp_aload_n d_Mod_keepsTold_93 rfl rfl ?_
  refine wp_aload_n d_Mod_keepsTold_94 rfl rfl ?_
  refine wl_getR d_Mod_keepsTold_95 lf_Mod_89 sh_312 rfl ?_
  refine wp_iconst d_Mod_keepsTold_98 (v := nI 1) rfl ?_
  obtain ⟨v39, e38, h⟩ := ob1_some h
  refine wa_ald d_Mod_keepsTold_99 sh_338 e38 ?_
  obtain ⟨v40, M41, e42, h⟩ := ob2_some h
  refine wl_callV1 d_Mod_keepsTold_100 lc_Mod_keeps lv_Mod_476 rfl sh_312 rfl rfl ⟨rfl, rfl⟩ ⟨by decide, by decide⟩ ?_
  refine s_Mod_keeps (d := d) e42 ?_
  obtain ⟨M44, e43, h⟩ := ob1_some h
  refine wa_ast d_Mod_keepsTold_103 sh_338 e43 ?_
  refine wp_iconst d_Mod_keepsTold_104 (v := nI 0) rfl ?_
  refine wp_istore_n d_Mod_keepsTold_105 rfl (by decide) ?_
  obtain ⟨M59, e112, h⟩ := ob1_some h
  refine l_Mod_keepsTold_1 ?_ _ _ _ e112
  intro u1
  refine wp_iconst d_Mod_keepsTold_150 (v := nI 0) rfl ?_
  refine wp_istore_n d_Mod_keepsTold_151 rfl (by decide) ?_
  obtain ⟨M74, e111, h⟩ := ob1_some h
  refine l_Mod_keepsTold_2 ?_ _ _ _ e111
  intro u1
  refine wp_iconst d_Mod_keepsTold_196 (v := nI 0) rfl ?_
  refine wp_istore_n d_Mod_keepsTold_197 rfl (by decide) ?_
  obtain ⟨M82, e110, h⟩ := ob1_some h
  refine l_Mod_keepsTold_3 ?_ _ _ _ e110
  intro u1
  refine wp_iconst d_Mod_keepsTold_226 (v := nI 0) rfl ?_
  refine wp_istore_n d_Mod_keepsTold_227 rfl (by decide) ?_
  obtain ⟨M90, e109, h⟩ := ob1_some h
  refine l_Mod_keepsTold_4 ?_ _ _ _ e109
  intro u1
  refine wp_iconst d_Mod_keepsTold_256 (v := nI 0) rfl ?_
  refine wp_istore_n d_Mod_keepsTold_257 rfl (by decide) ?_
  obtain ⟨M98, e108, h⟩ := ob1_some h
  refine l_Mod_keepsTold_5 ?_ _ _ _ e108
  intro u1
  refine wp_iconst d_Mod_keepsTold_286 (v := nI 0) rfl ?_
  refine wp_istore_n d_Mod_keepsTold_287 rfl (by decide) ?_
  obtain ⟨M106, e107, h⟩ := ob1_some h
  refine l_Mod_keepsTold_6 ?_ _ _ _ e107
  intro u1
  cases h
  exact wp_ret d_Mod_keepsTold_316 rfl rfl hq
def L_Mod_image_1 (z : Nat) : Nat → Int32 → mM → Option (mM)
  | 0, _, _ => none
  | n + 1, k_, M =>
    if k_ < (nI 270) then
    ob1 (ra M 313 270 k_) fun v10 =>
    ob2 (F_Mod_keeps v10 M) fun v11 M12 =>
    ob1 (wa M12 313 270 k_ v11) fun M15 =>
    L_Mod_image_1 z n (k_ + nI 1) M15
    else
    some (M)
def L_Mod_image_2 (z : Nat) : Nat → Int32 → mM → Option (mM)
  | 0, _, _ => none
  | n + 1, k_, M =>
    if k_ < (nI 600) then
    ob1 (ra M 316 600 k_) fun v20 =>
    ob2 (F_Mod_keeps v20 M) fun v21 M22 =>
    ob1 (wa M22 316 600 k_ v21) fun M25 =>
    L_Mod_image_2 z n (k_ + nI 1) M25
    else
    some (M)
def F_Mod_image (z : Nat) (taken_ : Bool) (M : mM) : Option (Bool × mM) :=
  if (¬ (taken_ = true) ∧ ¬ (¬ ((M 312 53) = nI 0))) then
  some (false, M)
  else
  ob1 (some (up M 312 52 (bI taken_))) fun M3 =>
  ob1 (some (up M3 312 53 (bI true))) fun M5 =>
  ob1 (some (up M5 312 54 (nI 0))) fun M7 =>
  ob1 (L_Mod_image_1 z z (nI 0) M7) fun M16 =>
  ob1 (F_Mod_keepsTold z M16) fun M17 =>
  ob1 (L_Mod_image_2 z z (nI 0) M17) fun M26 =>
  ob1 (F_Mod_keepsLaw z M26) fun M27 =>
  ob1 (if ¬ (taken_ = true) then
  ob1 (some (up M27 312 3 (nI 0))) fun M34 =>
  some (M34)
  else
  some (M27)) fun M32 =>
  some (true, M32)
theorem l_Mod_image_1  {q1 : Value} {N' : mM} (K : ∀ u2 : Value, wp X (d + 2) f_Mod_image (0, 0) 64 [.ref 312, q1, u2] [] (lay N') Q) : ∀ (n : Nat) (k_ : Int32) (M : mM), L_Mod_image_1 z n k_ M = some (N') → wp X (d + 2) f_Mod_image (0, 0) 35 [.ref 312, q1, .int k_] [] (lay M) Q := by
  intro n
  induction n with
  | zero => intro k_ M h; exact nn h
  | succ n ih =>
    intro k_ M h
    refine wp_iload_n d_Mod_image_35 rfl rfl ?_
    refine wp_sipush d_Mod_image_36 (v := nI 270) rfl ?_
    refine wq_icmp_ge 64 d_Mod_image_39 rfl (fun h39 => ?_) (fun h39 => ?_)
    · replace h := inn h h39
      cases h
      exact K _
    · replace h := ip h h39
      refine wp_aload_n d_Mod_image_42 rfl rfl ?_
      refine wl_getR d_Mod_image_43 lf_Mod_7 sh_312 rfl ?_
      refine wp_iload_n d_Mod_image_46 rfl rfl ?_
      refine wp_aload_n d_Mod_image_47 rfl rfl ?_
      refine wp_aload_n d_Mod_image_48 rfl rfl ?_
      refine wl_getR d_Mod_image_49 lf_Mod_7 sh_312 rfl ?_
      refine wp_iload_n d_Mod_image_52 rfl rfl ?_
      obtain ⟨v10, e9, h⟩ := ob1_some h
      refine wa_ald d_Mod_image_53 sh_313 e9 ?_
      obtain ⟨v11, M12, e13, h⟩ := ob2_some h
      refine wl_callV1 d_Mod_image_54 lc_Mod_keeps lv_Mod_476 rfl sh_312 rfl rfl ⟨rfl, rfl⟩ ⟨by decide, by decide⟩ ?_
      refine s_Mod_keeps (d := d + 1) e13 ?_
      obtain ⟨M15, e14, h⟩ := ob1_some h
      refine wa_ast d_Mod_image_57 sh_313 e14 ?_
      refine wp_iinc d_Mod_image_58 (v := k_ + nI 1) rfl rfl ?_
      refine wp_goto 35 d_Mod_image_61 rfl ?_
      exact ih _ _ h
theorem l_Mod_image_2  {q1 : Value} {N' : mM} (K : ∀ u2 : Value, wp X (d + 2) f_Mod_image (0, 0) 99 [.ref 312, q1, u2] [] (lay N') Q) : ∀ (n : Nat) (k_ : Int32) (M : mM), L_Mod_image_2 z n k_ M = some (N') → wp X (d + 2) f_Mod_image (0, 0) 70 [.ref 312, q1, .int k_] [] (lay M) Q := by
  intro n
  induction n with
  | zero => intro k_ M h; exact nn h
  | succ n ih =>
    intro k_ M h
    refine wp_iload_n d_Mod_image_70 rfl rfl ?_
    refine wp_sipush d_Mod_image_71 (v := nI 600) rfl ?_
    refine wq_icmp_ge 99 d_Mod_image_74 rfl (fun h74 => ?_) (fun h74 => ?_)
    · replace h := inn h h74
      cases h
      exact K _
    · replace h := ip h h74
      refine wp_aload_n d_Mod_image_77 rfl rfl ?_
      refine wl_getR d_Mod_image_78 lf_Mod_19 sh_312 rfl ?_
      refine wp_iload_n d_Mod_image_81 rfl rfl ?_
      refine wp_aload_n d_Mod_image_82 rfl rfl ?_
      refine wp_aload_n d_Mod_image_83 rfl rfl ?_
      refine wl_getR d_Mod_image_84 lf_Mod_19 sh_312 rfl ?_
      refine wp_iload_n d_Mod_image_87 rfl rfl ?_
      obtain ⟨v20, e19, h⟩ := ob1_some h
      refine wa_ald d_Mod_image_88 sh_316 e19 ?_
      obtain ⟨v21, M22, e23, h⟩ := ob2_some h
      refine wl_callV1 d_Mod_image_89 lc_Mod_keeps lv_Mod_476 rfl sh_312 rfl rfl ⟨rfl, rfl⟩ ⟨by decide, by decide⟩ ?_
      refine s_Mod_keeps (d := d + 1) e23 ?_
      obtain ⟨M25, e24, h⟩ := ob1_some h
      refine wa_ast d_Mod_image_92 sh_316 e24 ?_
      refine wp_iinc d_Mod_image_93 (v := k_ + nI 1) rfl rfl ?_
      refine wp_goto 70 d_Mod_image_96 rfl ?_
      exact ih _ _ h
theorem s_Mod_image {taken_ : Bool} {M : mM} {r : Bool} {M' : mM} (h : F_Mod_image z taken_ M = some (r, M')) (hq : Q (some (.int (bI r))) (lay M')) : Sp X (d + 2) f_Mod_image [.ref 312, .int (bI taken_)] (lay M) Q := by
  refine Sp_of (by decide) rfl (Nat.le_of_ble_eq_true rfl) ?_
  refine wp_aload_n d_Mod_image_0 rfl rfl ?_
  refine wp_iconst d_Mod_image_1 (v := nI 0) rfl ?_
  refine wl_putC d_Mod_image_2 lp_Mod_107 sh_312 rfl ⟨rfl, rfl⟩ ?_
  have k1 : ∀ u2 : Value, ¬ (¬ (taken_ = true) ∧ ¬ (¬ ((M 312 53) = nI 0))) → wp X (d + 2) f_Mod_image (0, 0) 18 [.ref 312, .int (bI taken_), u2] [] (lay M) Q := by
    intro u2 x2
    replace h := inn h x2
    refine wp_aload_n d_Mod_image_18 rfl rfl ?_
    refine wp_iload_n d_Mod_image_19 rfl rfl ?_
    refine wl_put d_Mod_image_20 lp_Mod_473 sh_312 rfl (bI_fits _) ?_
    obtain ⟨M3, e4, h⟩ := ob1_some h
    refine wx_M e4 ?_
    refine wp_aload_n d_Mod_image_23 rfl rfl ?_
    refine wp_iconst d_Mod_image_24 (v := bI true) rfl ?_
    refine wl_put d_Mod_image_25 lp_Mod_479 sh_312 rfl (bI_fits _) ?_
    obtain ⟨M5, e6, h⟩ := ob1_some h
    refine wx_M e6 ?_
    refine wp_aload_n d_Mod_image_28 rfl rfl ?_
    refine wp_iconst d_Mod_image_29 (v := nI 0) rfl ?_
    refine wl_put d_Mod_image_30 lp_Mod_470 sh_312 rfl ⟨rfl, rfl⟩ ?_
    obtain ⟨M7, e8, h⟩ := ob1_some h
    refine wx_M e8 ?_
    refine wp_iconst d_Mod_image_33 (v := nI 0) rfl ?_
    refine wp_istore_n d_Mod_image_34 rfl (by decide) ?_
    obtain ⟨M16, e37, h⟩ := ob1_some h
    refine l_Mod_image_1 ?_ _ _ _ e37
    intro u2
    refine wp_aload_n d_Mod_image_64 rfl rfl ?_
    obtain ⟨M17, e18, h⟩ := ob1_some h
    refine wl_callV0 d_Mod_image_65 lc_Mod_keepsTold lv_Mod_482 rfl sh_312 rfl rfl ⟨rfl, rfl⟩ ⟨by decide, by decide⟩ ?_
    refine s_Mod_keepsTold (d := d) e18 ?_
    refine wp_iconst d_Mod_image_68 (v := nI 0) rfl ?_
    refine wp_istore_n d_Mod_image_69 rfl (by decide) ?_
    obtain ⟨M26, e36, h⟩ := ob1_some h
    refine l_Mod_image_2 ?_ _ _ _ e36
    intro u2
    refine wp_aload_n d_Mod_image_99 rfl rfl ?_
    obtain ⟨M27, e28, h⟩ := ob1_some h
    refine wl_callV0 d_Mod_image_100 lc_Mod_keepsLaw lv_Mod_485 rfl sh_312 rfl rfl ⟨rfl, rfl⟩ ⟨by decide, by decide⟩ ?_
    refine s_Mod_keepsLaw (d := d) e28 ?_
    obtain ⟨M32, e33, h⟩ := ob1_some h
    have k31 : ∀ u2 : Value, wp X (d + 2) f_Mod_image (0, 0) 112 [.ref 312, .int (bI taken_), u2] [] (lay M32) Q := by
      intro u2
      refine wp_iconst d_Mod_image_112 (v := bI true) rfl ?_
      cases h
      exact wb_iret d_Mod_image_113 rfl rfl hq
    refine wp_iload_n d_Mod_image_103 rfl rfl ?_
    refine wc_ne 112 d_Mod_image_104 rfl (fun h104 => ?_) (fun h104 => ?_)
    · replace e33 := inn e33 (fun z => z h104)
      cases e33
      exact k31 _
    · replace e33 := ip e33 h104
      refine wp_aload_n d_Mod_image_107 rfl rfl ?_
      refine wp_iconst d_Mod_image_108 (v := nI 0) rfl ?_
      refine wl_put d_Mod_image_109 lp_Mod_111 sh_312 rfl ⟨rfl, rfl⟩ ?_
      obtain ⟨M34, e35, e33⟩ := ob1_some e33
      refine wx_M e35 ?_
      cases e33
      exact k31 _
  refine wp_iload_n d_Mod_image_5 rfl rfl ?_
  refine wc_ne 18 d_Mod_image_6 rfl (fun h6 => ?_) (fun h6 => ?_)
  · exact k1 _ (fun z => (fun z => z h6) z.1)
  · refine wp_aload_n d_Mod_image_9 rfl rfl ?_
    refine wl_getI d_Mod_image_10 lf_Mod_479 sh_312 rfl rfl ?_
    refine wz_ne 18 d_Mod_image_13 rfl (fun h13 => ?_) (fun h13 => ?_)
    · exact k1 _ (fun z => (fun z => z h13) z.2)
    · replace h := ip h ⟨h6, (fun z => z h13)⟩
      refine wp_iconst d_Mod_image_16 (v := bI false) rfl ?_
      cases h
      exact wb_iret d_Mod_image_17 rfl rfl hq
def F_Mod_look (z : Nat) (what_ : Int32) (M : mM) : Option (Int32) :=
  if what_ = (nI 0) then
  ob1 (ra M 313 270 (nI 8)) fun v23 =>
  some (v23)
  else
  if what_ = (nI 1) then
  ob1 (ra M 313 270 (nI 5)) fun v21 =>
  some (v21)
  else
  if what_ = (nI 2) then
  ob1 (ra M 313 270 (nI 6)) fun v19 =>
  some (v19)
  else
  if what_ = (nI 3) then
  ob1 (ra M 313 270 (nI 7)) fun v17 =>
  some (v17)
  else
  if what_ = (nI 4) then
  ob1 (ra M 313 270 (nI 3)) fun v15 =>
  some (v15)
  else
  if what_ = (nI 5) then
  ob1 (ra M 313 270 (nI 4)) fun v13 =>
  some (v13)
  else
  if what_ = (nI 6) then
  ob1 (F_Mod_legsOfAll z M) fun v10 =>
  some (v10)
  else
  if what_ = (nI 7) then
  ob1 (ra M 313 270 (nI 0)) fun v9 =>
  some (v9)
  else
  if what_ = (nI 8) then
  ob1 (ra M 313 270 (nI 2)) fun v7 =>
  some (v7)
  else
  if what_ = (nI 9) then
  ob1 (ra M 313 270 (nI 1)) fun v5 =>
  some (v5)
  else
  if what_ = (nI 10) then
  ob1 (ra M 319 2 (nI 0)) fun v3 =>
  some (v3)
  else
  if what_ = (nI 11) then
  some (M 312 30)
  else
  if what_ = (nI 12) then
  some (M 312 32)
  else
  if what_ = (nI 13) then
  some (M 312 34)
  else
  some ((if what_ = (nI 14) then M 312 3 else (-1)))
theorem s_Mod_look {what_ : Int32} {M : mM} {r : Int32} (h : F_Mod_look z what_ M = some r) (hq : Q (some (.int r)) (lay M)) : Sp X (d + 1) f_Mod_look [.ref 312, .int what_] (lay M) Q := by
  refine Sp_of (by decide) rfl (Nat.le_of_ble_eq_true rfl) ?_
  refine wp_aload_n d_Mod_look_0 rfl rfl ?_
  refine wp_iconst d_Mod_look_1 (v := nI 0) rfl ?_
  refine wl_putC d_Mod_look_2 lp_Mod_107 sh_312 rfl ⟨rfl, rfl⟩ ?_
  refine wp_iload_n d_Mod_look_5 rfl rfl ?_
  refine wz_ne 17 d_Mod_look_6 rfl (fun h6 => ?_) (fun h6 => ?_)
  · replace h := inn h h6
    refine wp_iload_n d_Mod_look_17 rfl rfl ?_
    refine wp_iconst d_Mod_look_18 (v := nI 1) rfl ?_
    refine wq_icmp_ne 29 d_Mod_look_19 rfl (fun h19 => ?_) (fun h19 => ?_)
    · replace h := inn h h19
      refine wp_iload_n d_Mod_look_29 rfl rfl ?_
      refine wp_iconst d_Mod_look_30 (v := nI 2) rfl ?_
      refine wq_icmp_ne 42 d_Mod_look_31 rfl (fun h31 => ?_) (fun h31 => ?_)
      · replace h := inn h h31
        refine wp_iload_n d_Mod_look_42 rfl rfl ?_
        refine wp_iconst d_Mod_look_43 (v := nI 3) rfl ?_
        refine wq_icmp_ne 55 d_Mod_look_44 rfl (fun h44 => ?_) (fun h44 => ?_)
        · replace h := inn h h44
          refine wp_iload_n d_Mod_look_55 rfl rfl ?_
          refine wp_iconst d_Mod_look_56 (v := nI 4) rfl ?_
          refine wq_icmp_ne 67 d_Mod_look_57 rfl (fun h57 => ?_) (fun h57 => ?_)
          · replace h := inn h h57
            refine wp_iload_n d_Mod_look_67 rfl rfl ?_
            refine wp_iconst d_Mod_look_68 (v := nI 5) rfl ?_
            refine wq_icmp_ne 79 d_Mod_look_69 rfl (fun h69 => ?_) (fun h69 => ?_)
            · replace h := inn h h69
              refine wp_iload_n d_Mod_look_79 rfl rfl ?_
              refine wp_bipush d_Mod_look_80 (v := nI 6) rfl ?_
              refine wq_icmp_ne 90 d_Mod_look_82 rfl (fun h82 => ?_) (fun h82 => ?_)
              · replace h := inn h h82
                refine wp_iload_n d_Mod_look_90 rfl rfl ?_
                refine wp_bipush d_Mod_look_91 (v := nI 7) rfl ?_
                refine wq_icmp_ne 103 d_Mod_look_93 rfl (fun h93 => ?_) (fun h93 => ?_)
                · replace h := inn h h93
                  refine wp_iload_n d_Mod_look_103 rfl rfl ?_
                  refine wp_bipush d_Mod_look_104 (v := nI 8) rfl ?_
                  refine wq_icmp_ne 116 d_Mod_look_106 rfl (fun h106 => ?_) (fun h106 => ?_)
                  · replace h := inn h h106
                    refine wp_iload_n d_Mod_look_116 rfl rfl ?_
                    refine wp_bipush d_Mod_look_117 (v := nI 9) rfl ?_
                    refine wq_icmp_ne 129 d_Mod_look_119 rfl (fun h119 => ?_) (fun h119 => ?_)
                    · replace h := inn h h119
                      refine wp_iload_n d_Mod_look_129 rfl rfl ?_
                      refine wp_bipush d_Mod_look_130 (v := nI 10) rfl ?_
                      refine wq_icmp_ne 142 d_Mod_look_132 rfl (fun h132 => ?_) (fun h132 => ?_)
                      · replace h := inn h h132
                        refine wp_iload_n d_Mod_look_142 rfl rfl ?_
                        refine wp_bipush d_Mod_look_143 (v := nI 11) rfl ?_
                        refine wq_icmp_ne 153 d_Mod_look_145 rfl (fun h145 => ?_) (fun h145 => ?_)
                        · replace h := inn h h145
                          refine wp_iload_n d_Mod_look_153 rfl rfl ?_
                          refine wp_bipush d_Mod_look_154 (v := nI 12) rfl ?_
                          refine wq_icmp_ne 164 d_Mod_look_156 rfl (fun h156 => ?_) (fun h156 => ?_)
                          · replace h := inn h h156
                            refine wp_iload_n d_Mod_look_164 rfl rfl ?_
                            refine wp_bipush d_Mod_look_165 (v := nI 13) rfl ?_
                            refine wq_icmp_ne 175 d_Mod_look_167 rfl (fun h167 => ?_) (fun h167 => ?_)
                            · replace h := inn h h167
                              have k1 : wp X (d + 1) f_Mod_look (0, 0) 189 [.ref 312, .int what_] [.int (if what_ = (nI 14) then M 312 3 else (-1))] (lay M) Q := by
                                cases h
                                exact wp_iret d_Mod_look_189 rfl rfl rfl hq
                              refine wp_iload_n d_Mod_look_175 rfl rfl ?_
                              refine wp_bipush d_Mod_look_176 (v := nI 14) rfl ?_
                              refine wq_icmp_ne 188 d_Mod_look_178 rfl (fun h178 => ?_) (fun h178 => ?_)
                              · refine wp_iconst d_Mod_look_188 (v := (-1)) rfl ?_
                                exact wj_in h178 (k1)
                              · refine wp_aload_n d_Mod_look_181 rfl rfl ?_
                                refine wl_getI d_Mod_look_182 lf_Mod_111 sh_312 rfl rfl ?_
                                refine wp_goto 189 d_Mod_look_185 rfl ?_
                                exact wj_ip h178 (k1)
                            · replace h := ip h h167
                              refine wp_aload_n d_Mod_look_170 rfl rfl ?_
                              refine wl_getI d_Mod_look_171 lf_Mod_279 sh_312 rfl rfl ?_
                              cases h
                              exact wp_iret d_Mod_look_174 rfl rfl rfl hq
                          · replace h := ip h h156
                            refine wp_aload_n d_Mod_look_159 rfl rfl ?_
                            refine wl_getI d_Mod_look_160 lf_Mod_285 sh_312 rfl rfl ?_
                            cases h
                            exact wp_iret d_Mod_look_163 rfl rfl rfl hq
                        · replace h := ip h h145
                          refine wp_aload_n d_Mod_look_148 rfl rfl ?_
                          refine wl_getI d_Mod_look_149 lf_Mod_282 sh_312 rfl rfl ?_
                          cases h
                          exact wp_iret d_Mod_look_152 rfl rfl rfl hq
                      · replace h := ip h h132
                        refine wp_aload_n d_Mod_look_135 rfl rfl ?_
                        refine wl_getR d_Mod_look_136 lf_Mod_28 sh_312 rfl ?_
                        refine wp_iconst d_Mod_look_139 (v := nI 0) rfl ?_
                        obtain ⟨v3, e2, h⟩ := ob1_some h
                        refine wa_ald d_Mod_look_140 sh_319 e2 ?_
                        cases h
                        exact wp_iret d_Mod_look_141 rfl rfl rfl hq
                    · replace h := ip h h119
                      refine wp_aload_n d_Mod_look_122 rfl rfl ?_
                      refine wl_getR d_Mod_look_123 lf_Mod_7 sh_312 rfl ?_
                      refine wp_iconst d_Mod_look_126 (v := nI 1) rfl ?_
                      obtain ⟨v5, e4, h⟩ := ob1_some h
                      refine wa_ald d_Mod_look_127 sh_313 e4 ?_
                      cases h
                      exact wp_iret d_Mod_look_128 rfl rfl rfl hq
                  · replace h := ip h h106
                    refine wp_aload_n d_Mod_look_109 rfl rfl ?_
                    refine wl_getR d_Mod_look_110 lf_Mod_7 sh_312 rfl ?_
                    refine wp_iconst d_Mod_look_113 (v := nI 2) rfl ?_
                    obtain ⟨v7, e6, h⟩ := ob1_some h
                    refine wa_ald d_Mod_look_114 sh_313 e6 ?_
                    cases h
                    exact wp_iret d_Mod_look_115 rfl rfl rfl hq
                · replace h := ip h h93
                  refine wp_aload_n d_Mod_look_96 rfl rfl ?_
                  refine wl_getR d_Mod_look_97 lf_Mod_7 sh_312 rfl ?_
                  refine wp_iconst d_Mod_look_100 (v := nI 0) rfl ?_
                  obtain ⟨v9, e8, h⟩ := ob1_some h
                  refine wa_ald d_Mod_look_101 sh_313 e8 ?_
                  cases h
                  exact wp_iret d_Mod_look_102 rfl rfl rfl hq
              · replace h := ip h h82
                refine wp_aload_n d_Mod_look_85 rfl rfl ?_
                obtain ⟨v10, e11, h⟩ := ob1_some h
                refine wl_callV0 d_Mod_look_86 lc_Mod_legsOfAll lv_Mod_385 rfl sh_312 rfl rfl ⟨rfl, rfl⟩ ⟨by decide, by decide⟩ ?_
                refine s_Mod_legsOfAll (d := d) e11 ?_
                cases h
                exact wp_iret d_Mod_look_89 rfl rfl rfl hq
            · replace h := ip h h69
              refine wp_aload_n d_Mod_look_72 rfl rfl ?_
              refine wl_getR d_Mod_look_73 lf_Mod_7 sh_312 rfl ?_
              refine wp_iconst d_Mod_look_76 (v := nI 4) rfl ?_
              obtain ⟨v13, e12, h⟩ := ob1_some h
              refine wa_ald d_Mod_look_77 sh_313 e12 ?_
              cases h
              exact wp_iret d_Mod_look_78 rfl rfl rfl hq
          · replace h := ip h h57
            refine wp_aload_n d_Mod_look_60 rfl rfl ?_
            refine wl_getR d_Mod_look_61 lf_Mod_7 sh_312 rfl ?_
            refine wp_iconst d_Mod_look_64 (v := nI 3) rfl ?_
            obtain ⟨v15, e14, h⟩ := ob1_some h
            refine wa_ald d_Mod_look_65 sh_313 e14 ?_
            cases h
            exact wp_iret d_Mod_look_66 rfl rfl rfl hq
        · replace h := ip h h44
          refine wp_aload_n d_Mod_look_47 rfl rfl ?_
          refine wl_getR d_Mod_look_48 lf_Mod_7 sh_312 rfl ?_
          refine wp_bipush d_Mod_look_51 (v := nI 7) rfl ?_
          obtain ⟨v17, e16, h⟩ := ob1_some h
          refine wa_ald d_Mod_look_53 sh_313 e16 ?_
          cases h
          exact wp_iret d_Mod_look_54 rfl rfl rfl hq
      · replace h := ip h h31
        refine wp_aload_n d_Mod_look_34 rfl rfl ?_
        refine wl_getR d_Mod_look_35 lf_Mod_7 sh_312 rfl ?_
        refine wp_bipush d_Mod_look_38 (v := nI 6) rfl ?_
        obtain ⟨v19, e18, h⟩ := ob1_some h
        refine wa_ald d_Mod_look_40 sh_313 e18 ?_
        cases h
        exact wp_iret d_Mod_look_41 rfl rfl rfl hq
    · replace h := ip h h19
      refine wp_aload_n d_Mod_look_22 rfl rfl ?_
      refine wl_getR d_Mod_look_23 lf_Mod_7 sh_312 rfl ?_
      refine wp_iconst d_Mod_look_26 (v := nI 5) rfl ?_
      obtain ⟨v21, e20, h⟩ := ob1_some h
      refine wa_ald d_Mod_look_27 sh_313 e20 ?_
      cases h
      exact wp_iret d_Mod_look_28 rfl rfl rfl hq
  · replace h := ip h h6
    refine wp_aload_n d_Mod_look_9 rfl rfl ?_
    refine wl_getR d_Mod_look_10 lf_Mod_7 sh_312 rfl ?_
    refine wp_bipush d_Mod_look_13 (v := nI 8) rfl ?_
    obtain ⟨v23, e22, h⟩ := ob1_some h
    refine wa_ald d_Mod_look_15 sh_313 e22 ?_
    cases h
    exact wp_iret d_Mod_look_16 rfl rfl rfl hq
end S1422
