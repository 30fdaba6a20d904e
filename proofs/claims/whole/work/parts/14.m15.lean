/-! methods as functions: printed by program -/
section S1415
variable {X : mXs} {d z : Nat} {Q : Option Value → mH → Prop}
def L_Mod_takesOther_1 (z : Nat) (n_ : Int32) : Nat → Int32 → mM → Option (mM)
  | 0, _, _ => none
  | n + 1, k_, M =>
    if k_ < ((nI 4) * n_) then
    ob1 (ra M 328 128 ((nI 64) + k_)) fun v23 =>
    ob1 (wa M 328 128 k_ v23) fun M25 =>
    L_Mod_takesOther_1 z n_ n (k_ + nI 1) M25
    else
    some (M)
def L_Mod_takesOther_2 (z : Nat) (n_ : Int32) : Nat → Int32 → mM → Option (mM)
  | 0, _, _ => none
  | n + 1, k_, M =>
    if k_ < ((nI 5) * n_) then
    ob1 (ra M 327 160 ((nI 80) + k_)) fun v31 =>
    ob1 (wa M 327 160 k_ v31) fun M33 =>
    L_Mod_takesOther_2 z n_ n (k_ + nI 1) M33
    else
    some (M)
def L_Mod_takesOther_3 (z : Nat) : Nat → Int32 → mM → Option (mM)
  | 0, _, _ => none
  | n + 1, k_, M =>
    if k_ < (nI 12) then
    ob1 (ra M 329 24 ((nI 12) + k_)) fun v39 =>
    ob1 (wa M 329 24 k_ v39) fun M41 =>
    L_Mod_takesOther_3 z n (k_ + nI 1) M41
    else
    some (M)
def F_Mod_takesOther (z : Nat) (kind_ : Int32) (n_ : Int32) (M : mM) : Option mM :=
  if kind_ = (nI 3) then
  ob1 (L_Mod_takesOther_3 z z (nI 0) M) fun M42 =>
  ob1 (some (up M42 312 34 n_)) fun M43 =>
  some M43
  else
  ob1 (if kind_ = (nI 1) then
  ob1 (L_Mod_takesOther_2 z n_ z (nI 0) M) fun M34 =>
  ob1 (some (up M34 312 30 n_)) fun M35 =>
  some (M35)
  else
  ob1 (L_Mod_takesOther_1 z n_ z (nI 0) M) fun M26 =>
  ob1 (some (up M26 312 32 n_)) fun M27 =>
  some (M27)) fun M18 =>
  ob1 (some (up M18 312 3 (nI 0))) fun M20 =>
  some M20
theorem l_Mod_takesOther_1 {n_ : Int32}  {q1 : Value} {N' : mM} (K : ∀ u3 : Value, wp X d f_Mod_takesOther (0, 0) 113 [.ref 312, q1, .int n_, u3] [] (lay N') Q) : ∀ (n : Nat) (k_ : Int32) (M : mM), L_Mod_takesOther_1 z n_ n k_ M = some (N') → wp X d f_Mod_takesOther (0, 0) 85 [.ref 312, q1, .int n_, .int k_] [] (lay M) Q := by
  intro n
  induction n with
  | zero => intro k_ M h; exact nn h
  | succ n ih =>
    intro k_ M h
    refine wp_iload_n d_Mod_takesOther_85 rfl rfl ?_
    refine wp_iconst d_Mod_takesOther_86 (v := nI 4) rfl ?_
    refine wp_iload_n d_Mod_takesOther_87 rfl rfl ?_
    refine wp_imul d_Mod_takesOther_88 ?_
    refine wq_icmp_ge 113 d_Mod_takesOther_89 rfl (fun h89 => ?_) (fun h89 => ?_)
    · replace h := inn h h89
      cases h
      exact K _
    · replace h := ip h h89
      refine wp_aload_n d_Mod_takesOther_92 rfl rfl ?_
      refine wl_getR d_Mod_takesOther_93 lf_Mod_59 sh_312 rfl ?_
      refine wp_iload_n d_Mod_takesOther_96 rfl rfl ?_
      refine wp_aload_n d_Mod_takesOther_97 rfl rfl ?_
      refine wl_getR d_Mod_takesOther_98 lf_Mod_59 sh_312 rfl ?_
      refine wp_bipush d_Mod_takesOther_101 (v := nI 64) rfl ?_
      refine wp_iload_n d_Mod_takesOther_103 rfl rfl ?_
      refine wp_iadd d_Mod_takesOther_104 ?_
      obtain ⟨v23, e22, h⟩ := ob1_some h
      refine wa_ald d_Mod_takesOther_105 sh_328 e22 ?_
      obtain ⟨M25, e24, h⟩ := ob1_some h
      refine wa_ast d_Mod_takesOther_106 sh_328 e24 ?_
      refine wp_iinc d_Mod_takesOther_107 (v := k_ + nI 1) rfl rfl ?_
      refine wp_goto 85 d_Mod_takesOther_110 rfl ?_
      exact ih _ _ h
theorem l_Mod_takesOther_2 {n_ : Int32}  {q1 : Value} {N' : mM} (K : ∀ u3 : Value, wp X d f_Mod_takesOther (0, 0) 75 [.ref 312, q1, .int n_, u3] [] (lay N') Q) : ∀ (n : Nat) (k_ : Int32) (M : mM), L_Mod_takesOther_2 z n_ n k_ M = some (N') → wp X d f_Mod_takesOther (0, 0) 47 [.ref 312, q1, .int n_, .int k_] [] (lay M) Q := by
  intro n
  induction n with
  | zero => intro k_ M h; exact nn h
  | succ n ih =>
    intro k_ M h
    refine wp_iload_n d_Mod_takesOther_47 rfl rfl ?_
    refine wp_iconst d_Mod_takesOther_48 (v := nI 5) rfl ?_
    refine wp_iload_n d_Mod_takesOther_49 rfl rfl ?_
    refine wp_imul d_Mod_takesOther_50 ?_
    refine wq_icmp_ge 75 d_Mod_takesOther_51 rfl (fun h51 => ?_) (fun h51 => ?_)
    · replace h := inn h h51
      cases h
      exact K _
    · replace h := ip h h51
      refine wp_aload_n d_Mod_takesOther_54 rfl rfl ?_
      refine wl_getR d_Mod_takesOther_55 lf_Mod_56 sh_312 rfl ?_
      refine wp_iload_n d_Mod_takesOther_58 rfl rfl ?_
      refine wp_aload_n d_Mod_takesOther_59 rfl rfl ?_
      refine wl_getR d_Mod_takesOther_60 lf_Mod_56 sh_312 rfl ?_
      refine wp_bipush d_Mod_takesOther_63 (v := nI 80) rfl ?_
      refine wp_iload_n d_Mod_takesOther_65 rfl rfl ?_
      refine wp_iadd d_Mod_takesOther_66 ?_
      obtain ⟨v31, e30, h⟩ := ob1_some h
      refine wa_ald d_Mod_takesOther_67 sh_327 e30 ?_
      obtain ⟨M33, e32, h⟩ := ob1_some h
      refine wa_ast d_Mod_takesOther_68 sh_327 e32 ?_
      refine wp_iinc d_Mod_takesOther_69 (v := k_ + nI 1) rfl rfl ?_
      refine wp_goto 47 d_Mod_takesOther_72 rfl ?_
      exact ih _ _ h
theorem l_Mod_takesOther_3  {q1 : Value} {q2 : Value} {N' : mM} (K : ∀ u3 : Value, wp X d f_Mod_takesOther (0, 0) 34 [.ref 312, q1, q2, u3] [] (lay N') Q) : ∀ (n : Nat) (k_ : Int32) (M : mM), L_Mod_takesOther_3 z n k_ M = some (N') → wp X d f_Mod_takesOther (0, 0) 7 [.ref 312, q1, q2, .int k_] [] (lay M) Q := by
  intro n
  induction n with
  | zero => intro k_ M h; exact nn h
  | succ n ih =>
    intro k_ M h
    refine wp_iload_n d_Mod_takesOther_7 rfl rfl ?_
    refine wp_bipush d_Mod_takesOther_8 (v := nI 12) rfl ?_
    refine wq_icmp_ge 34 d_Mod_takesOther_10 rfl (fun h10 => ?_) (fun h10 => ?_)
    · replace h := inn h h10
      cases h
      exact K _
    · replace h := ip h h10
      refine wp_aload_n d_Mod_takesOther_13 rfl rfl ?_
      refine wl_getR d_Mod_takesOther_14 lf_Mod_62 sh_312 rfl ?_
      refine wp_iload_n d_Mod_takesOther_17 rfl rfl ?_
      refine wp_aload_n d_Mod_takesOther_18 rfl rfl ?_
      refine wl_getR d_Mod_takesOther_19 lf_Mod_62 sh_312 rfl ?_
      refine wp_bipush d_Mod_takesOther_22 (v := nI 12) rfl ?_
      refine wp_iload_n d_Mod_takesOther_24 rfl rfl ?_
      refine wp_iadd d_Mod_takesOther_25 ?_
      obtain ⟨v39, e38, h⟩ := ob1_some h
      refine wa_ald d_Mod_takesOther_26 sh_329 e38 ?_
      obtain ⟨M41, e40, h⟩ := ob1_some h
      refine wa_ast d_Mod_takesOther_27 sh_329 e40 ?_
      refine wp_iinc d_Mod_takesOther_28 (v := k_ + nI 1) rfl rfl ?_
      refine wp_goto 7 d_Mod_takesOther_31 rfl ?_
      exact ih _ _ h
theorem s_Mod_takesOther {kind_ : Int32} {n_ : Int32} {M : mM} {M' : mM} (h : F_Mod_takesOther z kind_ n_ M = some M') (hq : Q none (lay M')) : Sp X d f_Mod_takesOther [.ref 312, .int kind_, .int n_] (lay M) Q := by
  refine Sp_of (by decide) rfl (Nat.le_of_ble_eq_true rfl) ?_
  refine wp_iload_n d_Mod_takesOther_0 rfl rfl ?_
  refine wp_iconst d_Mod_takesOther_1 (v := nI 3) rfl ?_
  refine wq_icmp_ne 40 d_Mod_takesOther_2 rfl (fun h2 => ?_) (fun h2 => ?_)
  · replace h := inn h h2
    obtain ⟨M18, e19, h⟩ := ob1_some h
    have k17 : ∀ u3 : Value, wp X d f_Mod_takesOther (0, 0) 118 [.ref 312, .int kind_, .int n_, u3] [] (lay M18) Q := by
      intro u3
      refine wp_aload_n d_Mod_takesOther_118 rfl rfl ?_
      refine wp_iconst d_Mod_takesOther_119 (v := nI 0) rfl ?_
      refine wl_put d_Mod_takesOther_120 lp_Mod_111 sh_312 rfl ⟨rfl, rfl⟩ ?_
      obtain ⟨M20, e21, h⟩ := ob1_some h
      refine wx_M e21 ?_
      cases h
      exact wp_ret d_Mod_takesOther_123 rfl rfl hq
    refine wp_iload_n d_Mod_takesOther_40 rfl rfl ?_
    refine wp_iconst d_Mod_takesOther_41 (v := nI 1) rfl ?_
    refine wq_icmp_ne 83 d_Mod_takesOther_42 rfl (fun h42 => ?_) (fun h42 => ?_)
    · replace e19 := inn e19 h42
      refine wp_iconst d_Mod_takesOther_83 (v := nI 0) rfl ?_
      refine wp_istore_n d_Mod_takesOther_84 rfl (by decide) ?_
      obtain ⟨M26, e29, e19⟩ := ob1_some e19
      refine l_Mod_takesOther_1 ?_ _ _ _ e29
      intro u3
      refine wp_aload_n d_Mod_takesOther_113 rfl rfl ?_
      refine wp_iload_n d_Mod_takesOther_114 rfl rfl ?_
      refine wl_put d_Mod_takesOther_115 lp_Mod_285 sh_312 rfl ⟨rfl, rfl⟩ ?_
      obtain ⟨M27, e28, e19⟩ := ob1_some e19
      refine wx_M e28 ?_
      cases e19
      exact k17 _
    · replace e19 := ip e19 h42
      refine wp_iconst d_Mod_takesOther_45 (v := nI 0) rfl ?_
      refine wp_istore_n d_Mod_takesOther_46 rfl (by decide) ?_
      obtain ⟨M34, e37, e19⟩ := ob1_some e19
      refine l_Mod_takesOther_2 ?_ _ _ _ e37
      intro u3
      refine wp_aload_n d_Mod_takesOther_75 rfl rfl ?_
      refine wp_iload_n d_Mod_takesOther_76 rfl rfl ?_
      refine wl_put d_Mod_takesOther_77 lp_Mod_282 sh_312 rfl ⟨rfl, rfl⟩ ?_
      obtain ⟨M35, e36, e19⟩ := ob1_some e19
      refine wx_M e36 ?_
      cases e19
      refine wp_goto 118 d_Mod_takesOther_80 rfl ?_
      exact k17 _
  · replace h := ip h h2
    refine wp_iconst d_Mod_takesOther_5 (v := nI 0) rfl ?_
    refine wp_istore_n d_Mod_takesOther_6 rfl (by decide) ?_
    obtain ⟨M42, e45, h⟩ := ob1_some h
    refine l_Mod_takesOther_3 ?_ _ _ _ e45
    intro u3
    refine wp_aload_n d_Mod_takesOther_34 rfl rfl ?_
    refine wp_iload_n d_Mod_takesOther_35 rfl rfl ?_
    refine wl_put d_Mod_takesOther_36 lp_Mod_279 sh_312 rfl ⟨rfl, rfl⟩ ?_
    obtain ⟨M43, e44, h⟩ := ob1_some h
    refine wx_M e44 ?_
    cases h
    exact wp_ret d_Mod_takesOther_39 rfl rfl hq
def F_Mod_text (z : Nat) (kind_ : Int32) (M : mM) : Option (Int32 × mM) :=
  ob1 (some (up M 312 28 (nI 0))) fun M1 =>
  ob1 (some (up M1 312 29 (-1))) fun M3 =>
  ob1 (some (up M3 312 9 (nI 0))) fun M5 =>
  ob1 (some (up M5 312 22 (nI 0))) fun M7 =>
  ob1 (some (up M7 312 23 (nI 0))) fun M9 =>
  ob2 (if (F_Mod_isIn kind_ (nI 0) (nI 3)) = true then
  ob2 (F_Mod_readsText z kind_ M9) fun v42 M43 =>
  if v42 = (-1) then
  ob1 (some (up M43 312 28 (M43 312 26))) fun M45 =>
  ob1 (some (up M45 312 29 (M45 312 27))) fun M47 =>
  some (v42, M47)
  else
  some (v42, M43)
  else
  some ((-1), M9)) fun n_26 M27 =>
  ob1 (some (up M27 312 8 (nI 0))) fun M29 =>
  if n_26 = (-1) then
  some ((-1), M29)
  else
  ob1 (if kind_ = (nI 0) then
  ob1 (F_Mod_takesLaw z n_26 M29) fun M40 =>
  some (M40)
  else
  ob1 (F_Mod_takesOther z kind_ n_26 M29) fun M38 =>
  some (M38)) fun M36 =>
  some (n_26, M36)
theorem s_Mod_text {kind_ : Int32} {M : mM} {r : Int32} {M' : mM} (h : F_Mod_text z kind_ M = some (r, M')) (hq : Q (some (.int r)) (lay M')) : Sp X (d + 10) f_Mod_text [.ref 312, .int kind_] (lay M) Q := by
  refine Sp_of (by decide) rfl (Nat.le_of_ble_eq_true rfl) ?_
  refine wp_aload_n d_Mod_text_0 rfl rfl ?_
  refine wp_iconst d_Mod_text_1 (v := nI 0) rfl ?_
  refine wl_putC d_Mod_text_2 lp_Mod_107 sh_312 rfl ⟨rfl, rfl⟩ ?_
  refine wp_aload_n d_Mod_text_5 rfl rfl ?_
  refine wp_iconst d_Mod_text_6 (v := nI 0) rfl ?_
  refine wl_put d_Mod_text_7 lp_Mod_288 sh_312 rfl ⟨rfl, rfl⟩ ?_
  obtain ⟨M1, e2, h⟩ := ob1_some h
  refine wx_M e2 ?_
  refine wp_aload_n d_Mod_text_10 rfl rfl ?_
  refine wp_iconst d_Mod_text_11 (v := (-1)) rfl ?_
  refine wl_put d_Mod_text_12 lp_Mod_52 sh_312 rfl ⟨rfl, rfl⟩ ?_
  obtain ⟨M3, e4, h⟩ := ob1_some h
  refine wx_M e4 ?_
  refine wp_aload_n d_Mod_text_15 rfl rfl ?_
  refine wp_iconst d_Mod_text_16 (v := nI 0) rfl ?_
  refine wl_put d_Mod_text_17 lp_Mod_156 sh_312 rfl ⟨rfl, rfl⟩ ?_
  obtain ⟨M5, e6, h⟩ := ob1_some h
  refine wx_M e6 ?_
  refine wp_aload_n d_Mod_text_20 rfl rfl ?_
  refine wp_iconst d_Mod_text_21 (v := nI 0) rfl ?_
  refine wl_put d_Mod_text_22 lp_Mod_190 sh_312 rfl ⟨rfl, rfl⟩ ?_
  obtain ⟨M7, e8, h⟩ := ob1_some h
  refine wx_M e8 ?_
  refine wp_aload_n d_Mod_text_25 rfl rfl ?_
  refine wp_iconst d_Mod_text_26 (v := nI 0) rfl ?_
  refine wl_put d_Mod_text_27 lp_Mod_221 sh_312 rfl ⟨rfl, rfl⟩ ?_
  obtain ⟨M9, e10, h⟩ := ob1_some h
  refine wx_M e10 ?_
  refine wp_iconst d_Mod_text_30 (v := (-1)) rfl ?_
  refine wp_istore_n d_Mod_text_31 rfl (by decide) ?_
  obtain ⟨n_26, M27, e28, h⟩ := ob2_some h
  have k25 : wp X (d + 10) f_Mod_text (0, 0) 69 [.ref 312, .int kind_, .int n_26] [] (lay M27) Q := by
    refine wp_aload_n d_Mod_text_69 rfl rfl ?_
    refine wp_iconst d_Mod_text_70 (v := nI 0) rfl ?_
    refine wl_put d_Mod_text_71 lp_Mod_149 sh_312 rfl ⟨rfl, rfl⟩ ?_
    obtain ⟨M29, e30, h⟩ := ob1_some h
    refine wx_M e30 ?_
    refine wp_iload_n d_Mod_text_74 rfl rfl ?_
    refine wp_iconst d_Mod_text_75 (v := (-1)) rfl ?_
    refine wq_icmp_ne 81 d_Mod_text_76 rfl (fun h76 => ?_) (fun h76 => ?_)
    · replace h := inn h h76
      obtain ⟨M36, e37, h⟩ := ob1_some h
      have k35 : wp X (d + 10) f_Mod_text (0, 0) 99 [.ref 312, .int kind_, .int n_26] [] (lay M36) Q := by
        refine wp_iload_n d_Mod_text_99 rfl rfl ?_
        cases h
        exact wp_iret d_Mod_text_100 rfl rfl rfl hq
      refine wp_iload_n d_Mod_text_81 rfl rfl ?_
      refine wz_ne 93 d_Mod_text_82 rfl (fun h82 => ?_) (fun h82 => ?_)
      · replace e37 := inn e37 h82
        refine wp_aload_n d_Mod_text_93 rfl rfl ?_
        refine wp_iload_n d_Mod_text_94 rfl rfl ?_
        refine wp_iload_n d_Mod_text_95 rfl rfl ?_
        obtain ⟨M38, e39, e37⟩ := ob1_some e37
        refine wl_callV2 d_Mod_text_96 lc_Mod_takesOther lv_Mod_297 rfl sh_312 rfl rfl ⟨rfl, rfl⟩ ⟨by decide, by decide⟩ ?_
        refine s_Mod_takesOther (d := d + 9) e39 ?_
        cases e37
        exact k35
      · replace e37 := ip e37 h82
        refine wp_aload_n d_Mod_text_85 rfl rfl ?_
        refine wp_iload_n d_Mod_text_86 rfl rfl ?_
        obtain ⟨M40, e41, e37⟩ := ob1_some e37
        refine wl_callV1 d_Mod_text_87 lc_Mod_takesLaw lv_Mod_294 rfl sh_312 rfl rfl ⟨rfl, rfl⟩ ⟨by decide, by decide⟩ ?_
        refine s_Mod_takesLaw (d := d + 9) e41 ?_
        cases e37
        refine wp_goto 99 d_Mod_text_90 rfl ?_
        exact k35
    · replace h := ip h h76
      refine wp_iconst d_Mod_text_79 (v := (-1)) rfl ?_
      cases h
      exact wp_iret d_Mod_text_80 rfl rfl rfl hq
  refine wp_aload_n d_Mod_text_32 rfl rfl ?_
  refine wp_iload_n d_Mod_text_33 rfl rfl ?_
  refine wp_iconst d_Mod_text_34 (v := nI 0) rfl ?_
  refine wp_iconst d_Mod_text_35 (v := nI 3) rfl ?_
  refine wl_callV3 d_Mod_text_36 lc_Mod_isIn lv_Mod_135 rfl sh_312 rfl rfl ⟨rfl, rfl⟩ ⟨by decide, by decide⟩ ?_
  refine s_Mod_isIn (d := d + 9) rfl ?_
  refine wc_eq 69 d_Mod_text_39 rfl (fun h39 => ?_) (fun h39 => ?_)
  · replace e28 := inn e28 h39
    cases e28
    exact k25
  · replace e28 := ip e28 h39
    refine wp_aload_n d_Mod_text_42 rfl rfl ?_
    refine wp_iload_n d_Mod_text_43 rfl rfl ?_
    obtain ⟨v42, M43, e44, e28⟩ := ob2_some e28
    refine wl_callV1 d_Mod_text_44 lc_Mod_readsText lv_Mod_291 rfl sh_312 rfl rfl ⟨rfl, rfl⟩ ⟨by decide, by decide⟩ ?_
    refine s_Mod_readsText (d := d) e44 ?_
    refine wp_istore_n d_Mod_text_47 rfl (by decide) ?_
    refine wp_iload_n d_Mod_text_48 rfl rfl ?_
    refine wp_iconst d_Mod_text_49 (v := (-1)) rfl ?_
    refine wq_icmp_ne 69 d_Mod_text_50 rfl (fun h50 => ?_) (fun h50 => ?_)
    · replace e28 := inn e28 h50
      cases e28
      exact k25
    · replace e28 := ip e28 h50
      refine wp_aload_n d_Mod_text_53 rfl rfl ?_
      refine wp_aload_n d_Mod_text_54 rfl rfl ?_
      refine wl_getI d_Mod_text_55 lf_Mod_184 sh_312 rfl rfl ?_
      refine wl_put d_Mod_text_58 lp_Mod_288 sh_312 rfl ⟨rfl, rfl⟩ ?_
      obtain ⟨M45, e46, e28⟩ := ob1_some e28
      refine wx_M e46 ?_
      refine wp_aload_n d_Mod_text_61 rfl rfl ?_
      refine wp_aload_n d_Mod_text_62 rfl rfl ?_
      refine wl_getI d_Mod_text_63 lf_Mod_187 sh_312 rfl rfl ?_
      refine wl_put d_Mod_text_66 lp_Mod_52 sh_312 rfl ⟨rfl, rfl⟩ ?_
      obtain ⟨M47, e48, e28⟩ := ob1_some e28
      refine wx_M e48 ?_
      cases e28
      exact k25
def F_Mod_fault (what_ : Int32) (M : mM) : Int32 :=
  (if what_ = (nI 0) then M 312 28 else (if what_ = (nI 1) then M 312 29 else (-1)))
theorem s_Mod_fault {what_ : Int32} {M : mM} {r : Int32} (h : F_Mod_fault what_ M = r) (hq : Q (some (.int r)) (lay M)) : Sp X d f_Mod_fault [.ref 312, .int what_] (lay M) Q := by
  refine Sp_of (by decide) rfl (Nat.le_of_ble_eq_true rfl) ?_
  refine wp_aload_n d_Mod_fault_0 rfl rfl ?_
  refine wp_iconst d_Mod_fault_1 (v := nI 0) rfl ?_
  refine wl_putC d_Mod_fault_2 lp_Mod_107 sh_312 rfl ⟨rfl, rfl⟩ ?_
  have k2 : wp X d f_Mod_fault (0, 0) 29 [.ref 312, .int what_] [.int (if what_ = (nI 0) then M 312 28 else (if what_ = (nI 1) then M 312 29 else (-1)))] (lay M) Q := by
    cases h
    exact wp_iret d_Mod_fault_29 rfl rfl rfl hq
  refine wp_iload_n d_Mod_fault_5 rfl rfl ?_
  refine wz_ne 16 d_Mod_fault_6 rfl (fun h6 => ?_) (fun h6 => ?_)
  · have k3 : wp X d f_Mod_fault (0, 0) 29 [.ref 312, .int what_] [.int (if what_ = (nI 1) then M 312 29 else (-1))] (lay M) Q := by
      exact wj_in h6 (k2)
    refine wp_iload_n d_Mod_fault_16 rfl rfl ?_
    refine wp_iconst d_Mod_fault_17 (v := nI 1) rfl ?_
    refine wq_icmp_ne 28 d_Mod_fault_18 rfl (fun h18 => ?_) (fun h18 => ?_)
    · refine wp_iconst d_Mod_fault_28 (v := (-1)) rfl ?_
      exact wj_in h18 (k3)
    · refine wp_aload_n d_Mod_fault_21 rfl rfl ?_
      refine wl_getI d_Mod_fault_22 lf_Mod_52 sh_312 rfl rfl ?_
      refine wp_goto 29 d_Mod_fault_25 rfl ?_
      exact wj_ip h18 (k3)
  · refine wp_aload_n d_Mod_fault_9 rfl rfl ?_
    refine wl_getI d_Mod_fault_10 lf_Mod_288 sh_312 rfl rfl ?_
    refine wp_goto 29 d_Mod_fault_13 rfl ?_
    exact wj_ip h6 (k2)
def F_Mod_twoOf (what_ : Int32) (x_ : Int32) (y_ : Int32) : Option (Int32) :=
  if what_ = (nI 2) then
  some (x_ + y_)
  else
  if what_ = (nI 3) then
  some (x_ - y_)
  else
  if what_ = (nI 4) then
  some (x_ * y_)
  else
  if what_ = (nI 5) then
  ob1 (nz y_ (x_ / y_)) fun v7 =>
  some (v7)
  else
  if what_ = (nI 6) then
  some ((if x_ < y_ then nI 1 else nI 0))
  else
  if what_ = (nI 7) then
  some ((if x_ = y_ then nI 1 else nI 0))
  else
  if what_ = (nI 8) then
  some ((if y_ < x_ then nI 1 else nI 0))
  else
  some ((if what_ = (nI 10) then x_ * y_ else (if (nI 0) < (x_ + y_) then nI 1 else nI 0)))
theorem s_Mod_twoOf {what_ : Int32} {x_ : Int32} {y_ : Int32} {M : mM} {r : Int32} (h : F_Mod_twoOf what_ x_ y_ = some r) (hq : Q (some (.int r)) (lay M)) : Sp X d f_Mod_twoOf [.ref 312, .int what_, .int x_, .int y_] (lay M) Q := by
  refine Sp_of (by decide) rfl (Nat.le_of_ble_eq_true rfl) ?_
  refine wp_iload_n d_Mod_twoOf_0 rfl rfl ?_
  refine wp_iconst d_Mod_twoOf_1 (v := nI 2) rfl ?_
  refine wq_icmp_ne 9 d_Mod_twoOf_2 rfl (fun h2 => ?_) (fun h2 => ?_)
  · replace h := inn h h2
    refine wp_iload_n d_Mod_twoOf_9 rfl rfl ?_
    refine wp_iconst d_Mod_twoOf_10 (v := nI 3) rfl ?_
    refine wq_icmp_ne 18 d_Mod_twoOf_11 rfl (fun h11 => ?_) (fun h11 => ?_)
    · replace h := inn h h11
      refine wp_iload_n d_Mod_twoOf_18 rfl rfl ?_
      refine wp_iconst d_Mod_twoOf_19 (v := nI 4) rfl ?_
      refine wq_icmp_ne 27 d_Mod_twoOf_20 rfl (fun h20 => ?_) (fun h20 => ?_)
      · replace h := inn h h20
        refine wp_iload_n d_Mod_twoOf_27 rfl rfl ?_
        refine wp_iconst d_Mod_twoOf_28 (v := nI 5) rfl ?_
        refine wq_icmp_ne 36 d_Mod_twoOf_29 rfl (fun h29 => ?_) (fun h29 => ?_)
        · replace h := inn h h29
          refine wp_iload_n d_Mod_twoOf_36 rfl rfl ?_
          refine wp_bipush d_Mod_twoOf_37 (v := nI 6) rfl ?_
          refine wq_icmp_ne 53 d_Mod_twoOf_39 rfl (fun h39 => ?_) (fun h39 => ?_)
          · replace h := inn h h39
            refine wp_iload_n d_Mod_twoOf_53 rfl rfl ?_
            refine wp_bipush d_Mod_twoOf_54 (v := nI 7) rfl ?_
            refine wq_icmp_ne 70 d_Mod_twoOf_56 rfl (fun h56 => ?_) (fun h56 => ?_)
            · replace h := inn h h56
              refine wp_iload_n d_Mod_twoOf_70 rfl rfl ?_
              refine wp_bipush d_Mod_twoOf_71 (v := nI 8) rfl ?_
              refine wq_icmp_ne 87 d_Mod_twoOf_73 rfl (fun h73 => ?_) (fun h73 => ?_)
              · replace h := inn h h73
                have k2 : wp X d f_Mod_twoOf (0, 0) 110 [.ref 312, .int what_, .int x_, .int y_] [.int (if what_ = (nI 10) then x_ * y_ else (if (nI 0) < (x_ + y_) then nI 1 else nI 0))] (lay M) Q := by
                  cases h
                  exact wp_iret d_Mod_twoOf_110 rfl rfl rfl hq
                refine wp_iload_n d_Mod_twoOf_87 rfl rfl ?_
                refine wp_bipush d_Mod_twoOf_88 (v := nI 10) rfl ?_
                refine wq_icmp_ne 99 d_Mod_twoOf_90 rfl (fun h90 => ?_) (fun h90 => ?_)
                · have k3 : wp X d f_Mod_twoOf (0, 0) 110 [.ref 312, .int what_, .int x_, .int y_] [.int (if (nI 0) < (x_ + y_) then nI 1 else nI 0)] (lay M) Q := by
                    exact wj_in h90 (k2)
                  refine wp_iload_n d_Mod_twoOf_99 rfl rfl ?_
                  refine wp_iload_n d_Mod_twoOf_100 rfl rfl ?_
                  refine wp_iadd d_Mod_twoOf_101 ?_
                  refine wz_le 109 d_Mod_twoOf_102 rfl (fun h102 => ?_) (fun h102 => ?_)
                  · refine wp_iconst d_Mod_twoOf_109 (v := nI 0) rfl ?_
                    exact wj_in h102 (k3)
                  · refine wp_iconst d_Mod_twoOf_105 (v := nI 1) rfl ?_
                    refine wp_goto 110 d_Mod_twoOf_106 rfl ?_
                    exact wj_ip h102 (k3)
                · refine wp_iload_n d_Mod_twoOf_93 rfl rfl ?_
                  refine wp_iload_n d_Mod_twoOf_94 rfl rfl ?_
                  refine wp_imul d_Mod_twoOf_95 ?_
                  refine wp_goto 110 d_Mod_twoOf_96 rfl ?_
                  exact wj_ip h90 (k2)
              · replace h := ip h h73
                have k4 : wp X d f_Mod_twoOf (0, 0) 86 [.ref 312, .int what_, .int x_, .int y_] [.int (if y_ < x_ then nI 1 else nI 0)] (lay M) Q := by
                  cases h
                  exact wp_iret d_Mod_twoOf_86 rfl rfl rfl hq
                refine wp_iload_n d_Mod_twoOf_76 rfl rfl ?_
                refine wp_iload_n d_Mod_twoOf_77 rfl rfl ?_
                refine wq_icmp_le 85 d_Mod_twoOf_78 rfl (fun h78 => ?_) (fun h78 => ?_)
                · refine wp_iconst d_Mod_twoOf_85 (v := nI 0) rfl ?_
                  exact wj_in h78 (k4)
                · refine wp_iconst d_Mod_twoOf_81 (v := nI 1) rfl ?_
                  refine wp_goto 86 d_Mod_twoOf_82 rfl ?_
                  exact wj_ip h78 (k4)
            · replace h := ip h h56
              have k5 : wp X d f_Mod_twoOf (0, 0) 69 [.ref 312, .int what_, .int x_, .int y_] [.int (if x_ = y_ then nI 1 else nI 0)] (lay M) Q := by
                cases h
                exact wp_iret d_Mod_twoOf_69 rfl rfl rfl hq
              refine wp_iload_n d_Mod_twoOf_59 rfl rfl ?_
              refine wp_iload_n d_Mod_twoOf_60 rfl rfl ?_
              refine wq_icmp_ne 68 d_Mod_twoOf_61 rfl (fun h61 => ?_) (fun h61 => ?_)
              · refine wp_iconst d_Mod_twoOf_68 (v := nI 0) rfl ?_
                exact wj_in h61 (k5)
              · refine wp_iconst d_Mod_twoOf_64 (v := nI 1) rfl ?_
                refine wp_goto 69 d_Mod_twoOf_65 rfl ?_
                exact wj_ip h61 (k5)
          · replace h := ip h h39
            have k6 : wp X d f_Mod_twoOf (0, 0) 52 [.ref 312, .int what_, .int x_, .int y_] [.int (if x_ < y_ then nI 1 else nI 0)] (lay M) Q := by
              cases h
              exact wp_iret d_Mod_twoOf_52 rfl rfl rfl hq
            refine wp_iload_n d_Mod_twoOf_42 rfl rfl ?_
            refine wp_iload_n d_Mod_twoOf_43 rfl rfl ?_
            refine wq_icmp_ge 51 d_Mod_twoOf_44 rfl (fun h44 => ?_) (fun h44 => ?_)
            · refine wp_iconst d_Mod_twoOf_51 (v := nI 0) rfl ?_
              exact wj_in h44 (k6)
            · refine wp_iconst d_Mod_twoOf_47 (v := nI 1) rfl ?_
              refine wp_goto 52 d_Mod_twoOf_48 rfl ?_
              exact wj_ip h44 (k6)
        · replace h := ip h h29
          refine wp_iload_n d_Mod_twoOf_32 rfl rfl ?_
          refine wp_iload_n d_Mod_twoOf_33 rfl rfl ?_
          obtain ⟨v7, e8, h⟩ := ob1_some h
          refine wq_idiv d_Mod_twoOf_34 e8 ?_
          cases h
          exact wp_iret d_Mod_twoOf_35 rfl rfl rfl hq
      · replace h := ip h h20
        refine wp_iload_n d_Mod_twoOf_23 rfl rfl ?_
        refine wp_iload_n d_Mod_twoOf_24 rfl rfl ?_
        refine wp_imul d_Mod_twoOf_25 ?_
        cases h
        exact wp_iret d_Mod_twoOf_26 rfl rfl rfl hq
    · replace h := ip h h11
      refine wp_iload_n d_Mod_twoOf_14 rfl rfl ?_
      refine wp_iload_n d_Mod_twoOf_15 rfl rfl ?_
      refine wp_isub d_Mod_twoOf_16 ?_
      cases h
      exact wp_iret d_Mod_twoOf_17 rfl rfl rfl hq
  · replace h := ip h h2
    refine wp_iload_n d_Mod_twoOf_5 rfl rfl ?_
    refine wp_iload_n d_Mod_twoOf_6 rfl rfl ?_
    refine wp_iadd d_Mod_twoOf_7 ?_
    cases h
    exact wp_iret d_Mod_twoOf_8 rfl rfl rfl hq
def L_Mod_runs_1 (z : Nat) (law_ : Int32) (behind_ : Int32) : Nat → Int32 → Int32 → mM → Option (Int32 × mM)
  | 0, _, _, _ => none
  | n + 1, top_, k_, M =>
    if k_ < (((nI 400) * law_) + behind_) then
    ob2 (ob1 (ob1 (ob1 (ra M 324 1200 k_) fun v214 =>
    some (decide (v214 = (nI 0)))) fun x203 =>
    if x203 = true then some (true)
    else ob1 (ra M 324 1200 k_) fun v212 =>
    some (decide (v212 = (nI 1)))) fun x124 =>
    if x124 = true then
    ob1 (ob1 (ob1 (ra M 324 1200 k_) fun v176 =>
    some (decide (v176 = (nI 0)))) fun x161 =>
    if x161 = true then
    ob1 (ra M 325 1200 k_) fun v168 =>
    some (v168)
    else
    ob1 (ra M 325 1200 k_) fun v172 =>
    ob1 (ra M 330 11 v172) fun v174 =>
    some (v174)) fun v157 =>
    ob1 (wa M 331 420 top_ v157) fun M160 =>
    some (top_ + (nI 1), M160)
    else
    ob1 (ob1 (ra M 324 1200 k_) fun v202 =>
    some (decide (v202 = (nI 9)))) fun x179 =>
    if x179 = true then
    ob1 (ra M 331 420 (top_ - (nI 1))) fun v186 =>
    ob1 (wa M 331 420 (top_ - (nI 1)) ((nI 1) - v186)) fun M188 =>
    some (top_, M188)
    else
    ob1 (ra M 324 1200 k_) fun v192 =>
    ob1 (ra M 331 420 ((top_ - (nI 1)) - (nI 1))) fun v194 =>
    ob1 (ra M 331 420 (top_ - (nI 1))) fun v196 =>
    ob1 (F_Mod_twoOf v192 v194 v196) fun v197 =>
    ob1 (wa M 331 420 ((top_ - (nI 1)) - (nI 1)) v197) fun M200 =>
    some (top_ - (nI 1), M200)) fun top_121 M122 =>
    L_Mod_runs_1 z law_ behind_ n top_121 (k_ + nI 1) M122
    else
    some (top_, M)
def F_Mod_runs (z : Nat) (law_ : Int32) (first_ : Int32) (behind_ : Int32) (M : mM) : Option (Int32 × mM) :=
  ob2 (L_Mod_runs_1 z law_ behind_ z (nI 0) (((nI 400) * law_) + first_) M) fun top_215 M216 =>
  ob1 (ra M216 331 420 (nI 0)) fun v218 =>
  some (v218, M216)
theorem l_Mod_runs_1 {law_ : Int32} {behind_ : Int32}  {q2 : Value} {top_r : Int32} {N' : mM} (K : ∀ u5 : Value, wp X (d + 1) f_Mod_runs (0, 0) 176 [.ref 312, .int law_, q2, .int behind_, .int top_r, u5] [] (lay N') Q) : ∀ (n : Nat) (top_ : Int32) (k_ : Int32) (M : mM), L_Mod_runs_1 z law_ behind_ n top_ k_ M = some (top_r, N') → wp X (d + 1) f_Mod_runs (0, 0) 12 [.ref 312, .int law_, q2, .int behind_, .int top_, .int k_] [] (lay M) Q := by
  intro n
  induction n with
  | zero => intro top_ k_ M h; exact nn h
  | succ n ih =>
    intro top_ k_ M h
    refine wp_iload d_Mod_runs_12 rfl ?_
    refine wp_sipush d_Mod_runs_14 (v := nI 400) rfl ?_
    refine wp_iload_n d_Mod_runs_17 rfl rfl ?_
    refine wp_imul d_Mod_runs_18 ?_
    refine wp_iload_n d_Mod_runs_19 rfl rfl ?_
    refine wp_iadd d_Mod_runs_20 ?_
    refine wq_icmp_ge 176 d_Mod_runs_21 rfl (fun h21 => ?_) (fun h21 => ?_)
    · replace h := inn h h21
      cases h
      exact K _
    · replace h := ip h h21
      obtain ⟨top_121, M122, e123, h⟩ := ob2_some h
      have k120 : wp X (d + 1) f_Mod_runs (0, 0) 170 [.ref 312, .int law_, q2, .int behind_, .int top_121, .int k_] [] (lay M122) Q := by
        refine wp_iinc d_Mod_runs_170 (v := k_ + nI 1) rfl rfl ?_
        refine wp_goto 12 d_Mod_runs_173 rfl ?_
        exact ih _ _ _ h
      obtain ⟨x124, e125, e123⟩ := ob1_some e123
      have k138 : x124 = true → wp X (d + 1) f_Mod_runs (0, 0) 45 [.ref 312, .int law_, q2, .int behind_, .int top_, .int k_] [] (lay M) Q := by
        intro x139
        replace e123 := ip e123 x139
        refine wp_aload_n d_Mod_runs_45 rfl rfl ?_
        refine wl_getR d_Mod_runs_46 lf_Mod_68 sh_312 rfl ?_
        refine wp_iload d_Mod_runs_49 rfl ?_
        obtain ⟨v157, e158, e123⟩ := ob1_some e123
        have k156 : wp X (d + 1) f_Mod_runs (0, 0) 83 [.ref 312, .int law_, q2, .int behind_, .int top_, .int k_] [.int v157, .int top_, .ref 331] (lay M) Q := by
          obtain ⟨M160, e159, e123⟩ := ob1_some e123
          refine wa_ast d_Mod_runs_83 sh_331 e159 ?_
          refine wp_iload d_Mod_runs_84 rfl ?_
          refine wp_iconst d_Mod_runs_86 (v := nI 1) rfl ?_
          refine wp_iadd d_Mod_runs_87 ?_
          refine wp_istore d_Mod_runs_88 (by decide) ?_
          cases e123
          refine wp_goto 170 d_Mod_runs_90 rfl ?_
          exact k120
        obtain ⟨x161, e162, e158⟩ := ob1_some e158
        have k165 : x161 = true → wp X (d + 1) f_Mod_runs (0, 0) 61 [.ref 312, .int law_, q2, .int behind_, .int top_, .int k_] [.int top_, .ref 331] (lay M) Q := by
          intro x166
          replace e158 := ip e158 x166
          refine wp_aload_n d_Mod_runs_61 rfl rfl ?_
          refine wl_getR d_Mod_runs_62 lf_Mod_46 sh_312 rfl ?_
          refine wp_iload d_Mod_runs_65 rfl ?_
          obtain ⟨v168, e167, e158⟩ := ob1_some e158
          refine wa_ald d_Mod_runs_67 sh_325 e167 ?_
          cases e158
          refine wp_goto 83 d_Mod_runs_68 rfl ?_
          exact k156
        have k169 : ¬ x161 = true → wp X (d + 1) f_Mod_runs (0, 0) 71 [.ref 312, .int law_, q2, .int behind_, .int top_, .int k_] [.int top_, .ref 331] (lay M) Q := by
          intro x170
          replace e158 := inn e158 x170
          refine wp_aload_n d_Mod_runs_71 rfl rfl ?_
          refine wl_getR d_Mod_runs_72 lf_Mod_65 sh_312 rfl ?_
          refine wp_aload_n d_Mod_runs_75 rfl rfl ?_
          refine wl_getR d_Mod_runs_76 lf_Mod_46 sh_312 rfl ?_
          refine wp_iload d_Mod_runs_79 rfl ?_
          obtain ⟨v172, e171, e158⟩ := ob1_some e158
          refine wa_ald d_Mod_runs_81 sh_325 e171 ?_
          obtain ⟨v174, e173, e158⟩ := ob1_some e158
          refine wa_ald d_Mod_runs_82 sh_330 e173 ?_
          cases e158
          exact k156
        refine wp_aload_n d_Mod_runs_51 rfl rfl ?_
        refine wl_getR d_Mod_runs_52 lf_Mod_43 sh_312 rfl ?_
        refine wp_iload d_Mod_runs_55 rfl ?_
        obtain ⟨v176, e175, e162⟩ := ob1_some e162
        refine wa_ald d_Mod_runs_57 sh_324 e175 ?_
        refine wz_ne 71 d_Mod_runs_58 rfl (fun h58 => ?_) (fun h58 => ?_)
        · cases e162
          exact k169 (fun z => h58 (of_decide_eq_true z))
        · cases e162
          exact k165 (decide_eq_true h58)
      have k177 : ¬ x124 = true → wp X (d + 1) f_Mod_runs (0, 0) 93 [.ref 312, .int law_, q2, .int behind_, .int top_, .int k_] [] (lay M) Q := by
        intro x178
        replace e123 := inn e123 x178
        obtain ⟨x179, e180, e123⟩ := ob1_some e123
        have k183 : x179 = true → wp X (d + 1) f_Mod_runs (0, 0) 105 [.ref 312, .int law_, q2, .int behind_, .int top_, .int k_] [] (lay M) Q := by
          intro x184
          replace e123 := ip e123 x184
          refine wp_aload_n d_Mod_runs_105 rfl rfl ?_
          refine wl_getR d_Mod_runs_106 lf_Mod_68 sh_312 rfl ?_
          refine wp_iload d_Mod_runs_109 rfl ?_
          refine wp_iconst d_Mod_runs_111 (v := nI 1) rfl ?_
          refine wp_isub d_Mod_runs_112 ?_
          refine wp_iconst d_Mod_runs_113 (v := nI 1) rfl ?_
          refine wp_aload_n d_Mod_runs_114 rfl rfl ?_
          refine wl_getR d_Mod_runs_115 lf_Mod_68 sh_312 rfl ?_
          refine wp_iload d_Mod_runs_118 rfl ?_
          refine wp_iconst d_Mod_runs_120 (v := nI 1) rfl ?_
          refine wp_isub d_Mod_runs_121 ?_
          obtain ⟨v186, e185, e123⟩ := ob1_some e123
          refine wa_ald d_Mod_runs_122 sh_331 e185 ?_
          refine wp_isub d_Mod_runs_123 ?_
          obtain ⟨M188, e187, e123⟩ := ob1_some e123
          refine wa_ast d_Mod_runs_124 sh_331 e187 ?_
          cases e123
          refine wp_goto 170 d_Mod_runs_125 rfl ?_
          exact k120
        have k189 : ¬ x179 = true → wp X (d + 1) f_Mod_runs (0, 0) 128 [.ref 312, .int law_, q2, .int behind_, .int top_, .int k_] [] (lay M) Q := by
          intro x190
          replace e123 := inn e123 x190
          refine wp_iload d_Mod_runs_128 rfl ?_
          refine wp_iconst d_Mod_runs_130 (v := nI 1) rfl ?_
          refine wp_isub d_Mod_runs_131 ?_
          refine wp_istore d_Mod_runs_132 (by decide) ?_
          refine wp_aload_n d_Mod_runs_134 rfl rfl ?_
          refine wl_getR d_Mod_runs_135 lf_Mod_68 sh_312 rfl ?_
          refine wp_iload d_Mod_runs_138 rfl ?_
          refine wp_iconst d_Mod_runs_140 (v := nI 1) rfl ?_
          refine wp_isub d_Mod_runs_141 ?_
          refine wp_aload_n d_Mod_runs_142 rfl rfl ?_
          refine wp_aload_n d_Mod_runs_143 rfl rfl ?_
          refine wl_getR d_Mod_runs_144 lf_Mod_43 sh_312 rfl ?_
          refine wp_iload d_Mod_runs_147 rfl ?_
          obtain ⟨v192, e191, e123⟩ := ob1_some e123
          refine wa_ald d_Mod_runs_149 sh_324 e191 ?_
          refine wp_aload_n d_Mod_runs_150 rfl rfl ?_
          refine wl_getR d_Mod_runs_151 lf_Mod_68 sh_312 rfl ?_
          refine wp_iload d_Mod_runs_154 rfl ?_
          refine wp_iconst d_Mod_runs_156 (v := nI 1) rfl ?_
          refine wp_isub d_Mod_runs_157 ?_
          obtain ⟨v194, e193, e123⟩ := ob1_some e123
          refine wa_ald d_Mod_runs_158 sh_331 e193 ?_
          refine wp_aload_n d_Mod_runs_159 rfl rfl ?_
          refine wl_getR d_Mod_runs_160 lf_Mod_68 sh_312 rfl ?_
          refine wp_iload d_Mod_runs_163 rfl ?_
          obtain ⟨v196, e195, e123⟩ := ob1_some e123
          refine wa_ald d_Mod_runs_165 sh_331 e195 ?_
          obtain ⟨v197, e198, e123⟩ := ob1_some e123
          refine wl_callV3 d_Mod_runs_166 lc_Mod_twoOf lv_Mod_300 rfl sh_312 rfl rfl ⟨rfl, rfl⟩ ⟨by decide, by decide⟩ ?_
          refine s_Mod_twoOf (d := d) e198 ?_
          obtain ⟨M200, e199, e123⟩ := ob1_some e123
          refine wa_ast d_Mod_runs_169 sh_331 e199 ?_
          cases e123
          exact k120
        refine wp_aload_n d_Mod_runs_93 rfl rfl ?_
        refine wl_getR d_Mod_runs_94 lf_Mod_43 sh_312 rfl ?_
        refine wp_iload d_Mod_runs_97 rfl ?_
        obtain ⟨v202, e201, e180⟩ := ob1_some e180
        refine wa_ald d_Mod_runs_99 sh_324 e201 ?_
        refine wp_bipush d_Mod_runs_100 (v := nI 9) rfl ?_
        refine wq_icmp_ne 128 d_Mod_runs_102 rfl (fun h102 => ?_) (fun h102 => ?_)
        · cases e180
          exact k189 (fun z => h102 (of_decide_eq_true z))
        · cases e180
          exact k183 (decide_eq_true h102)
      obtain ⟨x203, e204, e125⟩ := ob1_some e125
      have k207 : x203 = true → wp X (d + 1) f_Mod_runs (0, 0) 45 [.ref 312, .int law_, q2, .int behind_, .int top_, .int k_] [] (lay M) Q := by
        intro x208
        replace e125 := ip e125 x208
        cases e125
        exact k138 rfl
      have k209 : ¬ x203 = true → wp X (d + 1) f_Mod_runs (0, 0) 34 [.ref 312, .int law_, q2, .int behind_, .int top_, .int k_] [] (lay M) Q := by
        intro x210
        replace e125 := inn e125 x210
        refine wp_aload_n d_Mod_runs_34 rfl rfl ?_
        refine wl_getR d_Mod_runs_35 lf_Mod_43 sh_312 rfl ?_
        refine wp_iload d_Mod_runs_38 rfl ?_
        obtain ⟨v212, e211, e125⟩ := ob1_some e125
        refine wa_ald d_Mod_runs_40 sh_324 e211 ?_
        refine wp_iconst d_Mod_runs_41 (v := nI 1) rfl ?_
        refine wq_icmp_ne 93 d_Mod_runs_42 rfl (fun h42 => ?_) (fun h42 => ?_)
        · cases e125
          exact k177 (fun z => h42 (of_decide_eq_true z))
        · cases e125
          exact k138 (decide_eq_true h42)
      refine wp_aload_n d_Mod_runs_24 rfl rfl ?_
      refine wl_getR d_Mod_runs_25 lf_Mod_43 sh_312 rfl ?_
      refine wp_iload d_Mod_runs_28 rfl ?_
      obtain ⟨v214, e213, e204⟩ := ob1_some e204
      refine wa_ald d_Mod_runs_30 sh_324 e213 ?_
      refine wz_eq 45 d_Mod_runs_31 rfl (fun h31 => ?_) (fun h31 => ?_)
      · cases e204
        exact k207 (decide_eq_true h31)
      · cases e204
        exact k209 (fun z => h31 (of_decide_eq_true z))
theorem s_Mod_runs {law_ : Int32} {first_ : Int32} {behind_ : Int32} {M : mM} {r : Int32} {M' : mM} (h : F_Mod_runs z law_ first_ behind_ M = some (r, M')) (hq : Q (some (.int r)) (lay M')) : Sp X (d + 1) f_Mod_runs [.ref 312, .int law_, .int first_, .int behind_] (lay M) Q := by
  refine Sp_of (by decide) rfl (Nat.le_of_ble_eq_true rfl) ?_
  refine wp_iconst d_Mod_runs_0 (v := nI 0) rfl ?_
  refine wp_istore d_Mod_runs_1 (by decide) ?_
  refine wp_sipush d_Mod_runs_3 (v := nI 400) rfl ?_
  refine wp_iload_n d_Mod_runs_6 rfl rfl ?_
  refine wp_imul d_Mod_runs_7 ?_
  refine wp_iload_n d_Mod_runs_8 rfl rfl ?_
  refine wp_iadd d_Mod_runs_9 ?_
  refine wp_istore d_Mod_runs_10 (by decide) ?_
  obtain ⟨top_215, M216, e219, h⟩ := ob2_some h
  refine l_Mod_runs_1 ?_ _ _ _ _ e219
  intro u5
  refine wp_aload_n d_Mod_runs_176 rfl rfl ?_
  refine wl_getR d_Mod_runs_177 lf_Mod_68 sh_312 rfl ?_
  refine wp_iconst d_Mod_runs_180 (v := nI 0) rfl ?_
  obtain ⟨v218, e217, h⟩ := ob1_some h
  refine wa_ald d_Mod_runs_181 sh_331 e217 ?_
  cases h
  exact wp_iret d_Mod_runs_182 rfl rfl rfl hq
def L_Mod_lineOf_1 (z : Nat) (word_ : Int32) (kt : mM → Option (Int32 × mM)) : Nat → Int32 → mM → Option (Int32 × mM)
  | 0, _, _ => none
  | n + 1, l_, M =>
    ob1 (ob1 (ra M 319 2 (nI 0)) fun v81 =>
    some (decide (l_ < v81))) fun x3 =>
    if x3 = true then
    ob2 (ob1 (ob1 (ra M 320 48 l_) fun v77 =>
    some (decide (v77 = word_))) fun x47 =>
    if x47 = true then ob1 (ob1 (ra M 322 48 l_) fun v71 =>
    ob1 (ra M 323 48 l_) fun v73 =>
    some (decide (v71 = v73))) fun x53 =>
    if x53 = true then some (true, M)
    else ob1 (ra M 322 48 l_) fun v64 =>
    ob1 (ra M 323 48 l_) fun v66 =>
    ob2 (F_Mod_runs z (nI 0) v64 v66 M) fun v67 M68 =>
    some (decide (¬ (v67 = (nI 0))), M68)
    else some (false, M)) fun x9 M11 =>
    if x9 = true then
    some (l_, M11)
    else
    L_Mod_lineOf_1 z word_ kt n (l_ + nI 1) M11
    else
    kt M
def F_Mod_lineOf (z : Nat) (word_ : Int32) (M : mM) : Option (Int32 × mM) :=
  L_Mod_lineOf_1 z word_ (fun (M82 : mM) =>
  some ((-1), M82)) z (nI 0) M
theorem l_Mod_lineOf_1 {word_ : Int32} {kt : mM → Option (Int32 × mM)}  {r : Int32} {M' : mM} (hq : Q (some (.int r)) (lay M')) (K : ∀ (N1 : mM) (u2 : Value), kt  N1 = some (r, M') → wp X (d + 2) f_Mod_lineOf (0, 0) 65 [.ref 312, .int word_, u2] [] (lay N1) Q) : ∀ (n : Nat) (l_ : Int32) (M : mM), L_Mod_lineOf_1 z word_ kt n l_ M = some (r, M') → wp X (d + 2) f_Mod_lineOf (0, 0) 2 [.ref 312, .int word_, .int l_] [] (lay M) Q := by
  intro n
  induction n with
  | zero => intro l_ M h; exact nn h
  | succ n ih =>
    intro l_ M h
    obtain ⟨x3, e4, h⟩ := ob1_some h
    have k7 : x3 = true → wp X (d + 2) f_Mod_lineOf (0, 0) 12 [.ref 312, .int word_, .int l_] [] (lay M) Q := by
      intro x8
      replace h := ip h x8
      obtain ⟨x9, M11, e10, h⟩ := ob2_some h
      have k43 : x9 = true → wp X (d + 2) f_Mod_lineOf (0, 0) 57 [.ref 312, .int word_, .int l_] [] (lay M11) Q := by
        intro x44
        replace h := ip h x44
        refine wp_iload_n d_Mod_lineOf_57 rfl rfl ?_
        cases h
        exact wp_iret d_Mod_lineOf_58 rfl rfl rfl hq
      have k45 : ¬ x9 = true → wp X (d + 2) f_Mod_lineOf (0, 0) 59 [.ref 312, .int word_, .int l_] [] (lay M11) Q := by
        intro x46
        replace h := inn h x46
        refine wp_iinc d_Mod_lineOf_59 (v := l_ + nI 1) rfl rfl ?_
        refine wp_goto 2 d_Mod_lineOf_62 rfl ?_
        exact ih _ _ h
      obtain ⟨x47, e48, e10⟩ := ob1_some e10
      have k51 : x47 = true → wp X (d + 2) f_Mod_lineOf (0, 0) 22 [.ref 312, .int word_, .int l_] [] (lay M) Q := by
        intro x52
        replace e10 := ip e10 x52
        obtain ⟨x53, e54, e10⟩ := ob1_some e10
        have k59 : x53 = true → wp X (d + 2) f_Mod_lineOf (0, 0) 57 [.ref 312, .int word_, .int l_] [] (lay M) Q := by
          intro x60
          replace e10 := ip e10 x60
          cases e10
          exact k43 rfl
        have k61 : ¬ x53 = true → wp X (d + 2) f_Mod_lineOf (0, 0) 37 [.ref 312, .int word_, .int l_] [] (lay M) Q := by
          intro x62
          replace e10 := inn e10 x62
          refine wp_aload_n d_Mod_lineOf_37 rfl rfl ?_
          refine wp_iconst d_Mod_lineOf_38 (v := nI 0) rfl ?_
          refine wp_aload_n d_Mod_lineOf_39 rfl rfl ?_
          refine wl_getR d_Mod_lineOf_40 lf_Mod_37 sh_312 rfl ?_
          refine wp_iload_n d_Mod_lineOf_43 rfl rfl ?_
          obtain ⟨v64, e63, e10⟩ := ob1_some e10
          refine wa_ald d_Mod_lineOf_44 sh_322 e63 ?_
          refine wp_aload_n d_Mod_lineOf_45 rfl rfl ?_
          refine wl_getR d_Mod_lineOf_46 lf_Mod_40 sh_312 rfl ?_
          refine wp_iload_n d_Mod_lineOf_49 rfl rfl ?_
          obtain ⟨v66, e65, e10⟩ := ob1_some e10
          refine wa_ald d_Mod_lineOf_50 sh_323 e65 ?_
          obtain ⟨v67, M68, e69, e10⟩ := ob2_some e10
          refine wl_callV3 d_Mod_lineOf_51 lc_Mod_runs lv_Mod_303 rfl sh_312 rfl rfl ⟨rfl, rfl⟩ ⟨by decide, by decide⟩ ?_
          refine s_Mod_runs (d := d) e69 ?_
          refine wz_eq 59 d_Mod_lineOf_54 rfl (fun h54 => ?_) (fun h54 => ?_)
          · cases e10
            exact k45 (fun z => (fun z => z h54) (of_decide_eq_true z))
          · cases e10
            exact k43 (decide_eq_true h54)
        refine wp_aload_n d_Mod_lineOf_22 rfl rfl ?_
        refine wl_getR d_Mod_lineOf_23 lf_Mod_37 sh_312 rfl ?_
        refine wp_iload_n d_Mod_lineOf_26 rfl rfl ?_
        obtain ⟨v71, e70, e54⟩ := ob1_some e54
        refine wa_ald d_Mod_lineOf_27 sh_322 e70 ?_
        refine wp_aload_n d_Mod_lineOf_28 rfl rfl ?_
        refine wl_getR d_Mod_lineOf_29 lf_Mod_40 sh_312 rfl ?_
        refine wp_iload_n d_Mod_lineOf_32 rfl rfl ?_
        obtain ⟨v73, e72, e54⟩ := ob1_some e54
        refine wa_ald d_Mod_lineOf_33 sh_323 e72 ?_
        refine wq_icmp_eq 57 d_Mod_lineOf_34 rfl (fun h34 => ?_) (fun h34 => ?_)
        · cases e54
          exact k59 (decide_eq_true h34)
        · cases e54
          exact k61 (fun z => h34 (of_decide_eq_true z))
      have k74 : ¬ x47 = true → wp X (d + 2) f_Mod_lineOf (0, 0) 59 [.ref 312, .int word_, .int l_] [] (lay M) Q := by
        intro x75
        replace e10 := inn e10 x75
        cases e10
        exact k45 (fun z => Bool.noConfusion z)
      refine wp_aload_n d_Mod_lineOf_12 rfl rfl ?_
      refine wl_getR d_Mod_lineOf_13 lf_Mod_31 sh_312 rfl ?_
      refine wp_iload_n d_Mod_lineOf_16 rfl rfl ?_
      obtain ⟨v77, e76, e48⟩ := ob1_some e48
      refine wa_ald d_Mod_lineOf_17 sh_320 e76 ?_
      refine wp_iload_n d_Mod_lineOf_18 rfl rfl ?_
      refine wq_icmp_ne 59 d_Mod_lineOf_19 rfl (fun h19 => ?_) (fun h19 => ?_)
      · cases e48
        exact k74 (fun z => h19 (of_decide_eq_true z))
      · cases e48
        exact k51 (decide_eq_true h19)
    have k78 : ¬ x3 = true → wp X (d + 2) f_Mod_lineOf (0, 0) 65 [.ref 312, .int word_, .int l_] [] (lay M) Q := by
      intro x79
      replace h := inn h x79
      exact K _ _ h
    refine wp_iload_n d_Mod_lineOf_2 rfl rfl ?_
    refine wp_aload_n d_Mod_lineOf_3 rfl rfl ?_
    refine wl_getR d_Mod_lineOf_4 lf_Mod_28 sh_312 rfl ?_
    refine wp_iconst d_Mod_lineOf_7 (v := nI 0) rfl ?_
    obtain ⟨v81, e80, e4⟩ := ob1_some e4
    refine wa_ald d_Mod_lineOf_8 sh_319 e80 ?_
    refine wq_icmp_ge 65 d_Mod_lineOf_9 rfl (fun h9 => ?_) (fun h9 => ?_)
    · cases e4
      exact k78 (fun z => h9 (of_decide_eq_true z))
    · cases e4
      exact k7 (decide_eq_true h9)
theorem s_Mod_lineOf {word_ : Int32} {M : mM} {r : Int32} {M' : mM} (h : F_Mod_lineOf z word_ M = some (r, M')) (hq : Q (some (.int r)) (lay M')) : Sp X (d + 2) f_Mod_lineOf [.ref 312, .int word_] (lay M) Q := by
  refine Sp_of (by decide) rfl (Nat.le_of_ble_eq_true rfl) ?_
  refine wp_iconst d_Mod_lineOf_0 (v := nI 0) rfl ?_
  refine wp_istore_n d_Mod_lineOf_1 rfl (by decide) ?_
  refine l_Mod_lineOf_1 hq ?_ _ _ _ h
  intro M82 u2 h
  refine wp_iconst d_Mod_lineOf_65 (v := (-1)) rfl ?_
  cases h
  exact wp_iret d_Mod_lineOf_66 rfl rfl rfl hq
def L_Mod_nearTo_1 (z : Nat) (i_ : Int32) (M : mM) : Nat → Int32 → Int32 → Option (Int32)
  | 0, _, _ => none
  | n + 1, n_, t_ =>
    ob1 (ob1 (ra M 313 270 (nI 8)) fun v21 =>
    some (decide (t_ < v21))) fun x3 =>
    if x3 = true then
    ob1 (ra M 313 270 ((F_Mod_thingAt t_) + (nI 4))) fun v10 =>
    ob1 (if ((F_Mod_apart v10 i_) = (nI 1) ∨ (F_Mod_apart v10 i_) = (nI 10)) then
    some (n_ + (nI 1))
    else
    some (n_)) fun n_14 =>
    L_Mod_nearTo_1 z i_ M n n_14 (t_ + nI 1)
    else
    some (n_)
def F_Mod_nearTo (z : Nat) (i_ : Int32) (M : mM) : Option (Int32) :=
  ob1 (L_Mod_nearTo_1 z i_ M z (nI 0) (nI 0)) fun n_22 =>
  some (n_22)
theorem l_Mod_nearTo_1 {i_ : Int32} {M : mM}  {n_r : Int32} (K : ∀ u3 u4 : Value, wp X (d + 1) f_Mod_nearTo (0, 0) 57 [.ref 312, .int i_, .int n_r, u3, u4] [] (lay M) Q) : ∀ (n : Nat) (n_ : Int32) (t_ : Int32) (u4 : Value), L_Mod_nearTo_1 z i_ M n n_ t_ = some (n_r) → wp X (d + 1) f_Mod_nearTo (0, 0) 4 [.ref 312, .int i_, .int n_, .int t_, u4] [] (lay M) Q := by
  intro n
  induction n with
  | zero => intro n_ t_ u4 h; exact nn h
  | succ n ih =>
    intro n_ t_ u4 h
    obtain ⟨x3, e4, h⟩ := ob1_some h
    have k7 : ∀ u4 : Value, x3 = true → wp X (d + 1) f_Mod_nearTo (0, 0) 15 [.ref 312, .int i_, .int n_, .int t_, u4] [] (lay M) Q := by
      intro u4 x8
      replace h := ip h x8
      refine wp_aload_n d_Mod_nearTo_15 rfl rfl ?_
      refine wp_aload_n d_Mod_nearTo_16 rfl rfl ?_
      refine wl_getR d_Mod_nearTo_17 lf_Mod_7 sh_312 rfl ?_
      refine wp_aload_n d_Mod_nearTo_20 rfl rfl ?_
      refine wp_iload_n d_Mod_nearTo_21 rfl rfl ?_
      refine wl_callV1 d_Mod_nearTo_22 lc_Mod_thingAt lv_Mod_124 rfl sh_312 rfl rfl ⟨rfl, rfl⟩ ⟨by decide, by decide⟩ ?_
      refine s_Mod_thingAt (d := d) rfl ?_
      refine wp_iconst d_Mod_nearTo_25 (v := nI 4) rfl ?_
      refine wp_iadd d_Mod_nearTo_26 ?_
      obtain ⟨v10, e9, h⟩ := ob1_some h
      refine wa_ald d_Mod_nearTo_27 sh_313 e9 ?_
      refine wp_iload_n d_Mod_nearTo_28 rfl rfl ?_
      refine wl_callV2 d_Mod_nearTo_29 lc_Mod_apart lv_Mod_306 rfl sh_312 rfl rfl ⟨rfl, rfl⟩ ⟨by decide, by decide⟩ ?_
      refine s_Mod_apart (d := d) rfl ?_
      refine wp_istore d_Mod_nearTo_32 (by decide) ?_
      obtain ⟨n_14, e15, h⟩ := ob1_some h
      have k13 : wp X (d + 1) f_Mod_nearTo (0, 0) 51 [.ref 312, .int i_, .int n_14, .int t_, .int (F_Mod_apart v10 i_)] [] (lay M) Q := by
        refine wp_iinc d_Mod_nearTo_51 (v := t_ + nI 1) rfl rfl ?_
        refine wp_goto 4 d_Mod_nearTo_54 rfl ?_
        exact ih _ _ _ h
      have k16 : ((F_Mod_apart v10 i_) = (nI 1) ∨ (F_Mod_apart v10 i_) = (nI 10)) → wp X (d + 1) f_Mod_nearTo (0, 0) 47 [.ref 312, .int i_, .int n_, .int t_, .int (F_Mod_apart v10 i_)] [] (lay M) Q := by
        intro x17
        replace e15 := ip e15 x17
        refine wp_iload_n d_Mod_nearTo_47 rfl rfl ?_
        refine wp_iconst d_Mod_nearTo_48 (v := nI 1) rfl ?_
        refine wp_iadd d_Mod_nearTo_49 ?_
        refine wp_istore_n d_Mod_nearTo_50 rfl (by decide) ?_
        cases e15
        exact k13
      refine wp_iload d_Mod_nearTo_34 rfl ?_
      refine wp_iconst d_Mod_nearTo_36 (v := nI 1) rfl ?_
      refine wq_icmp_eq 47 d_Mod_nearTo_37 rfl (fun h37 => ?_) (fun h37 => ?_)
      · exact k16 (Or.inl h37)
      · refine wp_iload d_Mod_nearTo_40 rfl ?_
        refine wp_bipush d_Mod_nearTo_42 (v := nI 10) rfl ?_
        refine wq_icmp_ne 51 d_Mod_nearTo_44 rfl (fun h44 => ?_) (fun h44 => ?_)
        · replace e15 := inn e15 (fun z => z.elim h37 h44)
          cases e15
          exact k13
        · exact k16 (Or.inr h44)
    have k18 : ∀ u4 : Value, ¬ x3 = true → wp X (d + 1) f_Mod_nearTo (0, 0) 57 [.ref 312, .int i_, .int n_, .int t_, u4] [] (lay M) Q := by
      intro u4 x19
      replace h := inn h x19
      cases h
      exact K _ _
    refine wp_iload_n d_Mod_nearTo_4 rfl rfl ?_
    refine wp_aload_n d_Mod_nearTo_5 rfl rfl ?_
    refine wl_getR d_Mod_nearTo_6 lf_Mod_7 sh_312 rfl ?_
    refine wp_bipush d_Mod_nearTo_9 (v := nI 8) rfl ?_
    obtain ⟨v21, e20, e4⟩ := ob1_some e4
    refine wa_ald d_Mod_nearTo_11 sh_313 e20 ?_
    refine wq_icmp_ge 57 d_Mod_nearTo_12 rfl (fun h12 => ?_) (fun h12 => ?_)
    · cases e4
      exact k18 _ (fun z => h12 (of_decide_eq_true z))
    · cases e4
      exact k7 _ (decide_eq_true h12)
theorem s_Mod_nearTo {i_ : Int32} {M : mM} {r : Int32} (h : F_Mod_nearTo z i_ M = some r) (hq : Q (some (.int r)) (lay M)) : Sp X (d + 1) f_Mod_nearTo [.ref 312, .int i_] (lay M) Q := by
  refine Sp_of (by decide) rfl (Nat.le_of_ble_eq_true rfl) ?_
  refine wp_iconst d_Mod_nearTo_0 (v := nI 0) rfl ?_
  refine wp_istore_n d_Mod_nearTo_1 rfl (by decide) ?_
  refine wp_iconst d_Mod_nearTo_2 (v := nI 0) rfl ?_
  refine wp_istore_n d_Mod_nearTo_3 rfl (by decide) ?_
  obtain ⟨n_22, e23, h⟩ := ob1_some h
  refine l_Mod_nearTo_1 ?_ _ _ _ _ e23
  intro u3 u4
  refine wp_iload_n d_Mod_nearTo_57 rfl rfl ?_
  cases h
  exact wp_iret d_Mod_nearTo_58 rfl rfl rfl hq
def F_Mod_asks (z : Nat) (kind_ : Int32) (size_ : Int32) (life_ : Int32) (i_ : Int32) (age_ : Int32) (limbs_ : Int32) (M : mM) : Option mM :=
  ob1 (wa M 330 11 (nI 0) kind_) fun M2 =>
  ob1 (wa M2 330 11 (nI 1) size_) fun M4 =>
  ob1 (wa M4 330 11 (nI 2) life_) fun M6 =>
  ob1 (wa M6 330 11 (nI 3) i_) fun M8 =>
  ob1 (F_Mod_glue i_ M8) fun v9 =>
  ob1 (wa M8 330 11 (nI 4) v9) fun M12 =>
  ob1 (wa M12 330 11 (nI 5) age_) fun M14 =>
  ob1 (wa M14 330 11 (nI 6) limbs_) fun M16 =>
  ob1 (ra M16 313 270 (nI 3)) fun v18 =>
  ob1 (wa M16 330 11 (nI 7) v18) fun M20 =>
  ob1 (ra M20 313 270 (nI 4)) fun v22 =>
  ob1 (wa M20 330 11 (nI 8) v22) fun M24 =>
  ob1 (F_Mod_nearTo z i_ M24) fun v25 =>
  ob1 (wa M24 330 11 (nI 9) v25) fun M28 =>
  ob1 (ra M28 313 270 (nI 0)) fun v30 =>
  ob1 (wa M28 330 11 (nI 10) v30) fun M32 =>
  some M32
theorem s_Mod_asks {kind_ : Int32} {size_ : Int32} {life_ : Int32} {i_ : Int32} {age_ : Int32} {limbs_ : Int32} {M : mM} {M' : mM} (h : F_Mod_asks z kind_ size_ life_ i_ age_ limbs_ M = some M') (hq : Q none (lay M')) : Sp X (d + 2) f_Mod_asks [.ref 312, .int kind_, .int size_, .int life_, .int i_, .int age_, .int limbs_] (lay M) Q := by
  refine Sp_of (by decide) rfl (Nat.le_of_ble_eq_true rfl) ?_
  refine wp_aload_n d_Mod_asks_0 rfl rfl ?_
  refine wl_getR d_Mod_asks_1 lf_Mod_65 sh_312 rfl ?_
  refine wp_iconst d_Mod_asks_4 (v := nI 0) rfl ?_
  refine wp_iload_n d_Mod_asks_5 rfl rfl ?_
  obtain ⟨M2, e1, h⟩ := ob1_some h
  refine wa_ast d_Mod_asks_6 sh_330 e1 ?_
  refine wp_aload_n d_Mod_asks_7 rfl rfl ?_
  refine wl_getR d_Mod_asks_8 lf_Mod_65 sh_312 rfl ?_
  refine wp_iconst d_Mod_asks_11 (v := nI 1) rfl ?_
  refine wp_iload_n d_Mod_asks_12 rfl rfl ?_
  obtain ⟨M4, e3, h⟩ := ob1_some h
  refine wa_ast d_Mod_asks_13 sh_330 e3 ?_
  refine wp_aload_n d_Mod_asks_14 rfl rfl ?_
  refine wl_getR d_Mod_asks_15 lf_Mod_65 sh_312 rfl ?_
  refine wp_iconst d_Mod_asks_18 (v := nI 2) rfl ?_
  refine wp_iload_n d_Mod_asks_19 rfl rfl ?_
  obtain ⟨M6, e5, h⟩ := ob1_some h
  refine wa_ast d_Mod_asks_20 sh_330 e5 ?_
  refine wp_aload_n d_Mod_asks_21 rfl rfl ?_
  refine wl_getR d_Mod_asks_22 lf_Mod_65 sh_312 rfl ?_
  refine wp_iconst d_Mod_asks_25 (v := nI 3) rfl ?_
  refine wp_iload d_Mod_asks_26 rfl ?_
  obtain ⟨M8, e7, h⟩ := ob1_some h
  refine wa_ast d_Mod_asks_28 sh_330 e7 ?_
  refine wp_aload_n d_Mod_asks_29 rfl rfl ?_
  refine wl_getR d_Mod_asks_30 lf_Mod_65 sh_312 rfl ?_
  refine wp_iconst d_Mod_asks_33 (v := nI 4) rfl ?_
  refine wp_aload_n d_Mod_asks_34 rfl rfl ?_
  refine wp_iload d_Mod_asks_35 rfl ?_
  obtain ⟨v9, e10, h⟩ := ob1_some h
  refine wl_callV1 d_Mod_asks_37 lc_Mod_glue lv_Mod_309 rfl sh_312 rfl rfl ⟨rfl, rfl⟩ ⟨by decide, by decide⟩ ?_
  refine s_Mod_glue (d := d + 1) e10 ?_
  obtain ⟨M12, e11, h⟩ := ob1_some h
  refine wa_ast d_Mod_asks_40 sh_330 e11 ?_
  refine wp_aload_n d_Mod_asks_41 rfl rfl ?_
  refine wl_getR d_Mod_asks_42 lf_Mod_65 sh_312 rfl ?_
  refine wp_iconst d_Mod_asks_45 (v := nI 5) rfl ?_
  refine wp_iload d_Mod_asks_46 rfl ?_
  obtain ⟨M14, e13, h⟩ := ob1_some h
  refine wa_ast d_Mod_asks_48 sh_330 e13 ?_
  refine wp_aload_n d_Mod_asks_49 rfl rfl ?_
  refine wl_getR d_Mod_asks_50 lf_Mod_65 sh_312 rfl ?_
  refine wp_bipush d_Mod_asks_53 (v := nI 6) rfl ?_
  refine wp_iload d_Mod_asks_55 rfl ?_
  obtain ⟨M16, e15, h⟩ := ob1_some h
  refine wa_ast d_Mod_asks_57 sh_330 e15 ?_
  refine wp_aload_n d_Mod_asks_58 rfl rfl ?_
  refine wl_getR d_Mod_asks_59 lf_Mod_65 sh_312 rfl ?_
  refine wp_bipush d_Mod_asks_62 (v := nI 7) rfl ?_
  refine wp_aload_n d_Mod_asks_64 rfl rfl ?_
  refine wl_getR d_Mod_asks_65 lf_Mod_7 sh_312 rfl ?_
  refine wp_iconst d_Mod_asks_68 (v := nI 3) rfl ?_
  obtain ⟨v18, e17, h⟩ := ob1_some h
  refine wa_ald d_Mod_asks_69 sh_313 e17 ?_
  obtain ⟨M20, e19, h⟩ := ob1_some h
  refine wa_ast d_Mod_asks_70 sh_330 e19 ?_
  refine wp_aload_n d_Mod_asks_71 rfl rfl ?_
  refine wl_getR d_Mod_asks_72 lf_Mod_65 sh_312 rfl ?_
  refine wp_bipush d_Mod_asks_75 (v := nI 8) rfl ?_
  refine wp_aload_n d_Mod_asks_77 rfl rfl ?_
  refine wl_getR d_Mod_asks_78 lf_Mod_7 sh_312 rfl ?_
  refine wp_iconst d_Mod_asks_81 (v := nI 4) rfl ?_
  obtain ⟨v22, e21, h⟩ := ob1_some h
  refine wa_ald d_Mod_asks_82 sh_313 e21 ?_
  obtain ⟨M24, e23, h⟩ := ob1_some h
  refine wa_ast d_Mod_asks_83 sh_330 e23 ?_
  refine wp_aload_n d_Mod_asks_84 rfl rfl ?_
  refine wl_getR d_Mod_asks_85 lf_Mod_65 sh_312 rfl ?_
  refine wp_bipush d_Mod_asks_88 (v := nI 9) rfl ?_
  refine wp_aload_n d_Mod_asks_90 rfl rfl ?_
  refine wp_iload d_Mod_asks_91 rfl ?_
  obtain ⟨v25, e26, h⟩ := ob1_some h
  refine wl_callV1 d_Mod_asks_93 lc_Mod_nearTo lv_Mod_312 rfl sh_312 rfl rfl ⟨rfl, rfl⟩ ⟨by decide, by decide⟩ ?_
  refine s_Mod_nearTo (d := d) e26 ?_
  obtain ⟨M28, e27, h⟩ := ob1_some h
  refine wa_ast d_Mod_asks_96 sh_330 e27 ?_
  refine wp_aload_n d_Mod_asks_97 rfl rfl ?_
  refine wl_getR d_Mod_asks_98 lf_Mod_65 sh_312 rfl ?_
  refine wp_bipush d_Mod_asks_101 (v := nI 10) rfl ?_
  refine wp_aload_n d_Mod_asks_103 rfl rfl ?_
  refine wl_getR d_Mod_asks_104 lf_Mod_7 sh_312 rfl ?_
  refine wp_iconst d_Mod_asks_107 (v := nI 0) rfl ?_
  obtain ⟨v30, e29, h⟩ := ob1_some h
  refine wa_ald d_Mod_asks_108 sh_313 e29 ?_
  obtain ⟨M32, e31, h⟩ := ob1_some h
  refine wa_ast d_Mod_asks_109 sh_330 e31 ?_
  cases h
  exact wp_ret d_Mod_asks_110 rfl rfl hq
def F_Mod_asksOf (z : Nat) (t_ : Int32) (M : mM) : Option mM :=
  ob1 (ra M 313 270 ((F_Mod_thingAt t_) + (nI 1))) fun v2 =>
  ob1 (ra M 313 270 ((F_Mod_thingAt t_) + (nI 2))) fun v4 =>
  ob1 (ra M 313 270 ((F_Mod_thingAt t_) + (nI 3))) fun v6 =>
  ob1 (ra M 313 270 ((F_Mod_thingAt t_) + (nI 4))) fun v8 =>
  ob1 (ra M 313 270 ((F_Mod_thingAt t_) + (nI 5))) fun v10 =>
  ob1 (ra M 313 270 ((F_Mod_thingAt t_) + (nI 6))) fun v12 =>
  ob1 (F_Mod_asks z v2 v4 v6 v8 v10 v12 M) fun M13 =>
  some M13
theorem s_Mod_asksOf {t_ : Int32} {M : mM} {M' : mM} (h : F_Mod_asksOf z t_ M = some M') (hq : Q none (lay M')) : Sp X (d + 3) f_Mod_asksOf [.ref 312, .int t_] (lay M) Q := by
  refine Sp_of (by decide) rfl (Nat.le_of_ble_eq_true rfl) ?_
  refine wp_aload_n d_Mod_asksOf_0 rfl rfl ?_
  refine wp_iload_n d_Mod_asksOf_1 rfl rfl ?_
  refine wl_callV1 d_Mod_asksOf_2 lc_Mod_thingAt lv_Mod_124 rfl sh_312 rfl rfl ⟨rfl, rfl⟩ ⟨by decide, by decide⟩ ?_
  refine s_Mod_thingAt (d := d + 2) rfl ?_
  refine wp_istore_n d_Mod_asksOf_5 rfl (by decide) ?_
  refine wp_aload_n d_Mod_asksOf_6 rfl rfl ?_
  refine wp_aload_n d_Mod_asksOf_7 rfl rfl ?_
  refine wl_getR d_Mod_asksOf_8 lf_Mod_7 sh_312 rfl ?_
  refine wp_iload_n d_Mod_asksOf_11 rfl rfl ?_
  refine wp_iconst d_Mod_asksOf_12 (v := nI 1) rfl ?_
  refine wp_iadd d_Mod_asksOf_13 ?_
  obtain ⟨v2, e1, h⟩ := ob1_some h
  refine wa_ald d_Mod_asksOf_14 sh_313 e1 ?_
  refine wp_aload_n d_Mod_asksOf_15 rfl rfl ?_
  refine wl_getR d_Mod_asksOf_16 lf_Mod_7 sh_312 rfl ?_
  refine wp_iload_n d_Mod_asksOf_19 rfl rfl ?_
  refine wp_iconst d_Mod_asksOf_20 (v := nI 2) rfl ?_
  refine wp_iadd d_Mod_asksOf_21 ?_
  obtain ⟨v4, e3, h⟩ := ob1_some h
  refine wa_ald d_Mod_asksOf_22 sh_313 e3 ?_
  refine wp_aload_n d_Mod_asksOf_23 rfl rfl ?_
  refine wl_getR d_Mod_asksOf_24 lf_Mod_7 sh_312 rfl ?_
  refine wp_iload_n d_Mod_asksOf_27 rfl rfl ?_
  refine wp_iconst d_Mod_asksOf_28 (v := nI 3) rfl ?_
  refine wp_iadd d_Mod_asksOf_29 ?_
  obtain ⟨v6, e5, h⟩ := ob1_some h
  refine wa_ald d_Mod_asksOf_30 sh_313 e5 ?_
  refine wp_aload_n d_Mod_asksOf_31 rfl rfl ?_
  refine wl_getR d_Mod_asksOf_32 lf_Mod_7 sh_312 rfl ?_
  refine wp_iload_n d_Mod_asksOf_35 rfl rfl ?_
  refine wp_iconst d_Mod_asksOf_36 (v := nI 4) rfl ?_
  refine wp_iadd d_Mod_asksOf_37 ?_
  obtain ⟨v8, e7, h⟩ := ob1_some h
  refine wa_ald d_Mod_asksOf_38 sh_313 e7 ?_
  refine wp_aload_n d_Mod_asksOf_39 rfl rfl ?_
  refine wl_getR d_Mod_asksOf_40 lf_Mod_7 sh_312 rfl ?_
  refine wp_iload_n d_Mod_asksOf_43 rfl rfl ?_
  refine wp_iconst d_Mod_asksOf_44 (v := nI 5) rfl ?_
  refine wp_iadd d_Mod_asksOf_45 ?_
  obtain ⟨v10, e9, h⟩ := ob1_some h
  refine wa_ald d_Mod_asksOf_46 sh_313 e9 ?_
  refine wp_aload_n d_Mod_asksOf_47 rfl rfl ?_
  refine wl_getR d_Mod_asksOf_48 lf_Mod_7 sh_312 rfl ?_
  refine wp_iload_n d_Mod_asksOf_51 rfl rfl ?_
  refine wp_bipush d_Mod_asksOf_52 (v := nI 6) rfl ?_
  refine wp_iadd d_Mod_asksOf_54 ?_
  obtain ⟨v12, e11, h⟩ := ob1_some h
  refine wa_ald d_Mod_asksOf_55 sh_313 e11 ?_
  obtain ⟨M13, e14, h⟩ := ob1_some h
  refine wl_callV6 d_Mod_asksOf_56 lc_Mod_asks lv_Mod_315 rfl sh_312 rfl rfl ⟨rfl, rfl⟩ ⟨by decide, by decide⟩ ?_
  refine s_Mod_asks (d := d) e14 ?_
  cases h
  exact wp_ret d_Mod_asksOf_59 rfl rfl hq
def F_Mod_lawTells (z : Nat) (word_ : Int32) (without_ : Int32) (most_ : Int32) (M : mM) : Option (Int32 × mM) :=
  ob2 (F_Mod_lineOf z word_ M) fun v1 M2 =>
  ob2 (if v1 = (-1) then
  some (without_, M2)
  else
  ob1 (ra M2 321 48 v1) fun v16 =>
  ob1 (ra M2 322 48 v1) fun v18 =>
  ob2 (F_Mod_runs z (nI 0) v16 v18 M2) fun v19 M20 =>
  some (v19, M20)) fun v12 M14 =>
  some (F_Mod_within v12 (nI 0) most_, M14)
theorem s_Mod_lawTells {word_ : Int32} {without_ : Int32} {most_ : Int32} {M : mM} {r : Int32} {M' : mM} (h : F_Mod_lawTells z word_ without_ most_ M = some (r, M')) (hq : Q (some (.int r)) (lay M')) : Sp X (d + 3) f_Mod_lawTells [.ref 312, .int word_, .int without_, .int most_] (lay M) Q := by
  refine Sp_of (by decide) rfl (Nat.le_of_ble_eq_true rfl) ?_
  refine wp_aload_n d_Mod_lawTells_0 rfl rfl ?_
  refine wp_iload_n d_Mod_lawTells_1 rfl rfl ?_
  obtain ⟨v1, M2, e3, h⟩ := ob2_some h
  refine wl_callV1 d_Mod_lawTells_2 lc_Mod_lineOf lv_Mod_319 rfl sh_312 rfl rfl ⟨rfl, rfl⟩ ⟨by decide, by decide⟩ ?_
  refine s_Mod_lineOf (d := d) e3 ?_
  refine wp_istore d_Mod_lawTells_5 (by decide) ?_
  refine wp_aload_n d_Mod_lawTells_7 rfl rfl ?_
  obtain ⟨v12, M14, e13, h⟩ := ob2_some h
  have k11 : wp X (d + 3) f_Mod_lawTells (0, 0) 37 [.ref 312, .int word_, .int without_, .int most_, .int v1] [.int v12, .ref 312] (lay M14) Q := by
    refine wp_iconst d_Mod_lawTells_37 (v := nI 0) rfl ?_
    refine wp_iload_n d_Mod_lawTells_38 rfl rfl ?_
    refine wl_callV3 d_Mod_lawTells_39 lc_Mod_within lv_Mod_120 rfl sh_312 rfl rfl ⟨rfl, rfl⟩ ⟨by decide, by decide⟩ ?_
    refine s_Mod_within (d := d + 2) rfl ?_
    cases h
    exact wp_iret d_Mod_lawTells_42 rfl rfl rfl hq
  refine wp_iload d_Mod_lawTells_8 rfl ?_
  refine wp_iconst d_Mod_lawTells_10 (v := (-1)) rfl ?_
  refine wq_icmp_ne 18 d_Mod_lawTells_11 rfl (fun h11 => ?_) (fun h11 => ?_)
  · replace e13 := inn e13 h11
    refine wp_aload_n d_Mod_lawTells_18 rfl rfl ?_
    refine wp_iconst d_Mod_lawTells_19 (v := nI 0) rfl ?_
    refine wp_aload_n d_Mod_lawTells_20 rfl rfl ?_
    refine wl_getR d_Mod_lawTells_21 lf_Mod_34 sh_312 rfl ?_
    refine wp_iload d_Mod_lawTells_24 rfl ?_
    obtain ⟨v16, e15, e13⟩ := ob1_some e13
    refine wa_ald d_Mod_lawTells_26 sh_321 e15 ?_
    refine wp_aload_n d_Mod_lawTells_27 rfl rfl ?_
    refine wl_getR d_Mod_lawTells_28 lf_Mod_37 sh_312 rfl ?_
    refine wp_iload d_Mod_lawTells_31 rfl ?_
    obtain ⟨v18, e17, e13⟩ := ob1_some e13
    refine wa_ald d_Mod_lawTells_33 sh_322 e17 ?_
    obtain ⟨v19, M20, e21, e13⟩ := ob2_some e13
    refine wl_callV3 d_Mod_lawTells_34 lc_Mod_runs lv_Mod_303 rfl sh_312 rfl rfl ⟨rfl, rfl⟩ ⟨by decide, by decide⟩ ?_
    refine s_Mod_runs (d := d + 1) e21 ?_
    cases e13
    exact k11
  · replace e13 := ip e13 h11
    refine wp_iload_n d_Mod_lawTells_14 rfl rfl ?_
    cases e13
    refine wp_goto 37 d_Mod_lawTells_15 rfl ?_
    exact k11
end S1415
