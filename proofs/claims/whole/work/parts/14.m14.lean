/-! methods as functions: printed by program -/
section S1414
variable {X : mXs} {d z : Nat} {Q : Option Value → mH → Prop}
def F_Mod_readMark (z : Nat) (c_ : Int32) (M : mM) : Option (Int32 × mM) :=
  if ¬ ((F_Mod_isSign c_ M) = true) then
  ob2 (F_Mod_errs (nI 1) M) fun v3 M4 =>
  some (v3, M4)
  else
  ob1 (F_Mod_reads z M) fun M1 =>
  some (nI 0, M1)
theorem s_Mod_readMark {c_ : Int32} {M : mM} {r : Int32} {M' : mM} (h : F_Mod_readMark z c_ M = some (r, M')) (hq : Q (some (.int r)) (lay M')) : Sp X (d + 3) f_Mod_readMark [.ref 312, .int c_] (lay M) Q := by
  refine Sp_of (by decide) rfl (Nat.le_of_ble_eq_true rfl) ?_
  refine wp_aload_n d_Mod_readMark_0 rfl rfl ?_
  refine wp_iload_n d_Mod_readMark_1 rfl rfl ?_
  refine wl_callV1 d_Mod_readMark_2 lc_Mod_isSign lv_Mod_209 rfl sh_312 rfl rfl ⟨rfl, rfl⟩ ⟨by decide, by decide⟩ ?_
  refine s_Mod_isSign (d := d + 2) rfl ?_
  refine wc_ne 14 d_Mod_readMark_5 rfl (fun h5 => ?_) (fun h5 => ?_)
  · replace h := inn h (fun z => z h5)
    refine wp_aload_n d_Mod_readMark_14 rfl rfl ?_
    obtain ⟨M1, e2, h⟩ := ob1_some h
    refine wl_callV0 d_Mod_readMark_15 lc_Mod_reads lv_Mod_202 rfl sh_312 rfl rfl ⟨rfl, rfl⟩ ⟨by decide, by decide⟩ ?_
    refine s_Mod_reads (d := d) e2 ?_
    refine wp_iconst d_Mod_readMark_18 (v := nI 0) rfl ?_
    cases h
    exact wp_iret d_Mod_readMark_19 rfl rfl rfl hq
  · replace h := ip h h5
    refine wp_aload_n d_Mod_readMark_8 rfl rfl ?_
    refine wp_iconst d_Mod_readMark_9 (v := nI 1) rfl ?_
    obtain ⟨v3, M4, e5, h⟩ := ob2_some h
    refine wl_callV1 d_Mod_readMark_10 lc_Mod_errs lv_Mod_196 rfl sh_312 rfl rfl ⟨rfl, rfl⟩ ⟨by decide, by decide⟩ ?_
    refine s_Mod_errs (d := d + 2) e5 ?_
    cases h
    exact wp_iret d_Mod_readMark_13 rfl rfl rfl hq
def F_Mod_readTold (z : Nat) (w_ : Int32) (low_ : Int32) (high_ : Int32) (M : mM) : Option (Int32 × mM) :=
  if ¬ ((F_Mod_isWord w_ M) = true) then
  ob2 (F_Mod_errs (nI 1) M) fun v6 M7 =>
  some (v6, M7)
  else
  ob1 (F_Mod_reads z M) fun M1 =>
  ob2 (F_Mod_readNumber z low_ high_ M1) fun v3 M4 =>
  some (v3, M4)
theorem s_Mod_readTold {w_ : Int32} {low_ : Int32} {high_ : Int32} {M : mM} {r : Int32} {M' : mM} (h : F_Mod_readTold z w_ low_ high_ M = some (r, M')) (hq : Q (some (.int r)) (lay M')) : Sp X (d + 4) f_Mod_readTold [.ref 312, .int w_, .int low_, .int high_] (lay M) Q := by
  refine Sp_of (by decide) rfl (Nat.le_of_ble_eq_true rfl) ?_
  refine wp_aload_n d_Mod_readTold_0 rfl rfl ?_
  refine wp_iload_n d_Mod_readTold_1 rfl rfl ?_
  refine wl_callV1 d_Mod_readTold_2 lc_Mod_isWord lv_Mod_224 rfl sh_312 rfl rfl ⟨rfl, rfl⟩ ⟨by decide, by decide⟩ ?_
  refine s_Mod_isWord (d := d + 3) rfl ?_
  refine wc_ne 14 d_Mod_readTold_5 rfl (fun h5 => ?_) (fun h5 => ?_)
  · replace h := inn h (fun z => z h5)
    refine wp_aload_n d_Mod_readTold_14 rfl rfl ?_
    obtain ⟨M1, e2, h⟩ := ob1_some h
    refine wl_callV0 d_Mod_readTold_15 lc_Mod_reads lv_Mod_202 rfl sh_312 rfl rfl ⟨rfl, rfl⟩ ⟨by decide, by decide⟩ ?_
    refine s_Mod_reads (d := d + 1) e2 ?_
    refine wp_aload_n d_Mod_readTold_18 rfl rfl ?_
    refine wp_iload_n d_Mod_readTold_19 rfl rfl ?_
    refine wp_iload_n d_Mod_readTold_20 rfl rfl ?_
    obtain ⟨v3, M4, e5, h⟩ := ob2_some h
    refine wl_callV2 d_Mod_readTold_21 lc_Mod_readNumber lv_Mod_246 rfl sh_312 rfl rfl ⟨rfl, rfl⟩ ⟨by decide, by decide⟩ ?_
    refine s_Mod_readNumber (d := d) e5 ?_
    cases h
    exact wp_iret d_Mod_readTold_24 rfl rfl rfl hq
  · replace h := ip h h5
    refine wp_aload_n d_Mod_readTold_8 rfl rfl ?_
    refine wp_iconst d_Mod_readTold_9 (v := nI 1) rfl ?_
    obtain ⟨v6, M7, e8, h⟩ := ob2_some h
    refine wl_callV1 d_Mod_readTold_10 lc_Mod_errs lv_Mod_196 rfl sh_312 rfl rfl ⟨rfl, rfl⟩ ⟨by decide, by decide⟩ ?_
    refine s_Mod_errs (d := d + 3) e8 ?_
    cases h
    exact wp_iret d_Mod_readTold_13 rfl rfl rfl hq
def F_Mod_readFlightLine (z : Nat) (at_ : Int32) (M : mM) : Option (Int32 × mM) :=
  ob2 (F_Mod_readTold z (nI 18) (nI 0) (nI 999) M) fun v1 M2 =>
  ob1 (wa M2 327 160 at_ v1) fun M5 =>
  ob1 (ob1 (ra M5 327 160 at_) fun v89 =>
  some (decide (v89 = (-1)))) fun x6 =>
  if x6 = true then
  some ((-1), M5)
  else
  if (¬ ((M5 312 11) = (nI 2)) ∨ ¬ ((F_Mod_isIn (M5 312 12) (nI 19) (nI 24)) = true)) then
  ob2 (F_Mod_errs (nI 1) M5) fun v16 M17 =>
  some (v16, M17)
  else
  ob1 (wa M5 327 160 (at_ + (nI 1)) ((M5 312 12) - (nI 19))) fun M20 =>
  ob1 (F_Mod_reads z M20) fun M21 =>
  ob2 (F_Mod_readNumber z (nI 1) (nI 9) M21) fun v23 M24 =>
  ob1 (wa M24 327 160 (at_ + (nI 2)) v23) fun M27 =>
  ob1 (ob1 (ra M27 327 160 (at_ + (nI 2))) fun v87 =>
  some (decide (v87 = (-1)))) fun x28 =>
  if x28 = true then
  some ((-1), M27)
  else
  ob2 (F_Mod_readNumber z (nI 0) (nI 9) M27) fun v36 M37 =>
  ob1 (wa M37 327 160 (at_ + (nI 3)) v36) fun M40 =>
  ob1 (ob1 (ra M40 327 160 (at_ + (nI 3))) fun v85 =>
  some (decide (v85 = (-1)))) fun x41 =>
  if x41 = true then
  some ((-1), M40)
  else
  ob2 (F_Mod_readTold z (nI 25) (nI 0) (nI 59) M40) fun v49 M50 =>
  ob1 (wa M50 327 160 (at_ + (nI 4)) v49) fun M53 =>
  ob2 (ob1 (ob1 (ra M53 327 160 (at_ + (nI 4))) fun v83 =>
  some (decide (v83 = (-1)))) fun x71 =>
  if x71 = true then
  some ((-1), M53)
  else
  ob2 (F_Mod_readMark z (nI 59) M53) fun v79 M80 =>
  some (v79, M80)) fun v68 M70 =>
  some (v68, M70)
theorem s_Mod_readFlightLine {at_ : Int32} {M : mM} {r : Int32} {M' : mM} (h : F_Mod_readFlightLine z at_ M = some (r, M')) (hq : Q (some (.int r)) (lay M')) : Sp X (d + 5) f_Mod_readFlightLine [.ref 312, .int at_] (lay M) Q := by
  refine Sp_of (by decide) rfl (Nat.le_of_ble_eq_true rfl) ?_
  refine wp_aload_n d_Mod_readFlightLine_0 rfl rfl ?_
  refine wl_getR d_Mod_readFlightLine_1 lf_Mod_56 sh_312 rfl ?_
  refine wp_iload_n d_Mod_readFlightLine_4 rfl rfl ?_
  refine wp_aload_n d_Mod_readFlightLine_5 rfl rfl ?_
  refine wp_bipush d_Mod_readFlightLine_6 (v := nI 18) rfl ?_
  refine wp_iconst d_Mod_readFlightLine_8 (v := nI 0) rfl ?_
  refine wp_sipush d_Mod_readFlightLine_9 (v := nI 999) rfl ?_
  obtain ⟨v1, M2, e3, h⟩ := ob2_some h
  refine wl_callV3 d_Mod_readFlightLine_12 lc_Mod_readTold lv_Mod_249 rfl sh_312 rfl rfl ⟨rfl, rfl⟩ ⟨by decide, by decide⟩ ?_
  refine s_Mod_readTold (d := d) e3 ?_
  obtain ⟨M5, e4, h⟩ := ob1_some h
  refine wa_ast d_Mod_readFlightLine_15 sh_327 e4 ?_
  obtain ⟨x6, e7, h⟩ := ob1_some h
  have k10 : x6 = true → wp X (d + 5) f_Mod_readFlightLine (0, 0) 26 [.ref 312, .int at_] [] (lay M5) Q := by
    intro x11
    replace h := ip h x11
    refine wp_iconst d_Mod_readFlightLine_26 (v := (-1)) rfl ?_
    cases h
    exact wp_iret d_Mod_readFlightLine_27 rfl rfl rfl hq
  have k12 : ¬ x6 = true → wp X (d + 5) f_Mod_readFlightLine (0, 0) 28 [.ref 312, .int at_] [] (lay M5) Q := by
    intro x13
    replace h := inn h x13
    have k14 : (¬ ((M5 312 11) = (nI 2)) ∨ ¬ ((F_Mod_isIn (M5 312 12) (nI 19) (nI 24)) = true)) → wp X (d + 5) f_Mod_readFlightLine (0, 0) 51 [.ref 312, .int at_] [] (lay M5) Q := by
      intro x15
      replace h := ip h x15
      refine wp_aload_n d_Mod_readFlightLine_51 rfl rfl ?_
      refine wp_iconst d_Mod_readFlightLine_52 (v := nI 1) rfl ?_
      obtain ⟨v16, M17, e18, h⟩ := ob2_some h
      refine wl_callV1 d_Mod_readFlightLine_53 lc_Mod_errs lv_Mod_196 rfl sh_312 rfl rfl ⟨rfl, rfl⟩ ⟨by decide, by decide⟩ ?_
      refine s_Mod_errs (d := d + 4) e18 ?_
      cases h
      exact wp_iret d_Mod_readFlightLine_56 rfl rfl rfl hq
    refine wp_aload_n d_Mod_readFlightLine_28 rfl rfl ?_
    refine wl_getI d_Mod_readFlightLine_29 lf_Mod_165 sh_312 rfl rfl ?_
    refine wp_iconst d_Mod_readFlightLine_32 (v := nI 2) rfl ?_
    refine wq_icmp_ne 51 d_Mod_readFlightLine_33 rfl (fun h33 => ?_) (fun h33 => ?_)
    · exact k14 (Or.inl h33)
    · refine wp_aload_n d_Mod_readFlightLine_36 rfl rfl ?_
      refine wp_aload_n d_Mod_readFlightLine_37 rfl rfl ?_
      refine wl_getI d_Mod_readFlightLine_38 lf_Mod_168 sh_312 rfl rfl ?_
      refine wp_bipush d_Mod_readFlightLine_41 (v := nI 19) rfl ?_
      refine wp_bipush d_Mod_readFlightLine_43 (v := nI 24) rfl ?_
      refine wl_callV3 d_Mod_readFlightLine_45 lc_Mod_isIn lv_Mod_135 rfl sh_312 rfl rfl ⟨rfl, rfl⟩ ⟨by decide, by decide⟩ ?_
      refine s_Mod_isIn (d := d + 4) rfl ?_
      refine wc_ne 57 d_Mod_readFlightLine_48 rfl (fun h48 => ?_) (fun h48 => ?_)
      · replace h := inn h (fun z => z.elim (fun z => z h33) (fun z => z h48))
        refine wp_aload_n d_Mod_readFlightLine_57 rfl rfl ?_
        refine wl_getR d_Mod_readFlightLine_58 lf_Mod_56 sh_312 rfl ?_
        refine wp_iload_n d_Mod_readFlightLine_61 rfl rfl ?_
        refine wp_iconst d_Mod_readFlightLine_62 (v := nI 1) rfl ?_
        refine wp_iadd d_Mod_readFlightLine_63 ?_
        refine wp_aload_n d_Mod_readFlightLine_64 rfl rfl ?_
        refine wl_getI d_Mod_readFlightLine_65 lf_Mod_168 sh_312 rfl rfl ?_
        refine wp_bipush d_Mod_readFlightLine_68 (v := nI 19) rfl ?_
        refine wp_isub d_Mod_readFlightLine_70 ?_
        obtain ⟨M20, e19, h⟩ := ob1_some h
        refine wa_ast d_Mod_readFlightLine_71 sh_327 e19 ?_
        refine wp_aload_n d_Mod_readFlightLine_72 rfl rfl ?_
        obtain ⟨M21, e22, h⟩ := ob1_some h
        refine wl_callV0 d_Mod_readFlightLine_73 lc_Mod_reads lv_Mod_202 rfl sh_312 rfl rfl ⟨rfl, rfl⟩ ⟨by decide, by decide⟩ ?_
        refine s_Mod_reads (d := d + 2) e22 ?_
        refine wp_aload_n d_Mod_readFlightLine_76 rfl rfl ?_
        refine wl_getR d_Mod_readFlightLine_77 lf_Mod_56 sh_312 rfl ?_
        refine wp_iload_n d_Mod_readFlightLine_80 rfl rfl ?_
        refine wp_iconst d_Mod_readFlightLine_81 (v := nI 2) rfl ?_
        refine wp_iadd d_Mod_readFlightLine_82 ?_
        refine wp_aload_n d_Mod_readFlightLine_83 rfl rfl ?_
        refine wp_iconst d_Mod_readFlightLine_84 (v := nI 1) rfl ?_
        refine wp_bipush d_Mod_readFlightLine_85 (v := nI 9) rfl ?_
        obtain ⟨v23, M24, e25, h⟩ := ob2_some h
        refine wl_callV2 d_Mod_readFlightLine_87 lc_Mod_readNumber lv_Mod_246 rfl sh_312 rfl rfl ⟨rfl, rfl⟩ ⟨by decide, by decide⟩ ?_
        refine s_Mod_readNumber (d := d + 1) e25 ?_
        obtain ⟨M27, e26, h⟩ := ob1_some h
        refine wa_ast d_Mod_readFlightLine_90 sh_327 e26 ?_
        obtain ⟨x28, e29, h⟩ := ob1_some h
        have k32 : x28 = true → wp X (d + 5) f_Mod_readFlightLine (0, 0) 103 [.ref 312, .int at_] [] (lay M27) Q := by
          intro x33
          replace h := ip h x33
          refine wp_iconst d_Mod_readFlightLine_103 (v := (-1)) rfl ?_
          cases h
          exact wp_iret d_Mod_readFlightLine_104 rfl rfl rfl hq
        have k34 : ¬ x28 = true → wp X (d + 5) f_Mod_readFlightLine (0, 0) 105 [.ref 312, .int at_] [] (lay M27) Q := by
          intro x35
          replace h := inn h x35
          refine wp_aload_n d_Mod_readFlightLine_105 rfl rfl ?_
          refine wl_getR d_Mod_readFlightLine_106 lf_Mod_56 sh_312 rfl ?_
          refine wp_iload_n d_Mod_readFlightLine_109 rfl rfl ?_
          refine wp_iconst d_Mod_readFlightLine_110 (v := nI 3) rfl ?_
          refine wp_iadd d_Mod_readFlightLine_111 ?_
          refine wp_aload_n d_Mod_readFlightLine_112 rfl rfl ?_
          refine wp_iconst d_Mod_readFlightLine_113 (v := nI 0) rfl ?_
          refine wp_bipush d_Mod_readFlightLine_114 (v := nI 9) rfl ?_
          obtain ⟨v36, M37, e38, h⟩ := ob2_some h
          refine wl_callV2 d_Mod_readFlightLine_116 lc_Mod_readNumber lv_Mod_246 rfl sh_312 rfl rfl ⟨rfl, rfl⟩ ⟨by decide, by decide⟩ ?_
          refine s_Mod_readNumber (d := d + 1) e38 ?_
          obtain ⟨M40, e39, h⟩ := ob1_some h
          refine wa_ast d_Mod_readFlightLine_119 sh_327 e39 ?_
          obtain ⟨x41, e42, h⟩ := ob1_some h
          have k45 : x41 = true → wp X (d + 5) f_Mod_readFlightLine (0, 0) 132 [.ref 312, .int at_] [] (lay M40) Q := by
            intro x46
            replace h := ip h x46
            refine wp_iconst d_Mod_readFlightLine_132 (v := (-1)) rfl ?_
            cases h
            exact wp_iret d_Mod_readFlightLine_133 rfl rfl rfl hq
          have k47 : ¬ x41 = true → wp X (d + 5) f_Mod_readFlightLine (0, 0) 134 [.ref 312, .int at_] [] (lay M40) Q := by
            intro x48
            replace h := inn h x48
            refine wp_aload_n d_Mod_readFlightLine_134 rfl rfl ?_
            refine wl_getR d_Mod_readFlightLine_135 lf_Mod_56 sh_312 rfl ?_
            refine wp_iload_n d_Mod_readFlightLine_138 rfl rfl ?_
            refine wp_iconst d_Mod_readFlightLine_139 (v := nI 4) rfl ?_
            refine wp_iadd d_Mod_readFlightLine_140 ?_
            refine wp_aload_n d_Mod_readFlightLine_141 rfl rfl ?_
            refine wp_bipush d_Mod_readFlightLine_142 (v := nI 25) rfl ?_
            refine wp_iconst d_Mod_readFlightLine_144 (v := nI 0) rfl ?_
            refine wp_bipush d_Mod_readFlightLine_145 (v := nI 59) rfl ?_
            obtain ⟨v49, M50, e51, h⟩ := ob2_some h
            refine wl_callV3 d_Mod_readFlightLine_147 lc_Mod_readTold lv_Mod_249 rfl sh_312 rfl rfl ⟨rfl, rfl⟩ ⟨by decide, by decide⟩ ?_
            refine s_Mod_readTold (d := d) e51 ?_
            obtain ⟨M53, e52, h⟩ := ob1_some h
            refine wa_ast d_Mod_readFlightLine_150 sh_327 e52 ?_
            obtain ⟨v68, M70, e69, h⟩ := ob2_some h
            have k67 : wp X (d + 5) f_Mod_readFlightLine (0, 0) 173 [.ref 312, .int at_] [.int v68] (lay M70) Q := by
              cases h
              exact wp_iret d_Mod_readFlightLine_173 rfl rfl rfl hq
            obtain ⟨x71, e72, e69⟩ := ob1_some e69
            have k75 : x71 = true → wp X (d + 5) f_Mod_readFlightLine (0, 0) 163 [.ref 312, .int at_] [] (lay M53) Q := by
              intro x76
              replace e69 := ip e69 x76
              refine wp_iconst d_Mod_readFlightLine_163 (v := (-1)) rfl ?_
              cases e69
              refine wp_goto 173 d_Mod_readFlightLine_164 rfl ?_
              exact k67
            have k77 : ¬ x71 = true → wp X (d + 5) f_Mod_readFlightLine (0, 0) 167 [.ref 312, .int at_] [] (lay M53) Q := by
              intro x78
              replace e69 := inn e69 x78
              refine wp_aload_n d_Mod_readFlightLine_167 rfl rfl ?_
              refine wp_bipush d_Mod_readFlightLine_168 (v := nI 59) rfl ?_
              obtain ⟨v79, M80, e81, e69⟩ := ob2_some e69
              refine wl_callV1 d_Mod_readFlightLine_170 lc_Mod_readMark lv_Mod_252 rfl sh_312 rfl rfl ⟨rfl, rfl⟩ ⟨by decide, by decide⟩ ?_
              refine s_Mod_readMark (d := d + 1) e81 ?_
              cases e69
              exact k67
            refine wp_aload_n d_Mod_readFlightLine_151 rfl rfl ?_
            refine wl_getR d_Mod_readFlightLine_152 lf_Mod_56 sh_312 rfl ?_
            refine wp_iload_n d_Mod_readFlightLine_155 rfl rfl ?_
            refine wp_iconst d_Mod_readFlightLine_156 (v := nI 4) rfl ?_
            refine wp_iadd d_Mod_readFlightLine_157 ?_
            obtain ⟨v83, e82, e72⟩ := ob1_some e72
            refine wa_ald d_Mod_readFlightLine_158 sh_327 e82 ?_
            refine wp_iconst d_Mod_readFlightLine_159 (v := (-1)) rfl ?_
            refine wq_icmp_ne 167 d_Mod_readFlightLine_160 rfl (fun h160 => ?_) (fun h160 => ?_)
            · cases e72
              exact k77 (fun z => h160 (of_decide_eq_true z))
            · cases e72
              exact k75 (decide_eq_true h160)
          refine wp_aload_n d_Mod_readFlightLine_120 rfl rfl ?_
          refine wl_getR d_Mod_readFlightLine_121 lf_Mod_56 sh_312 rfl ?_
          refine wp_iload_n d_Mod_readFlightLine_124 rfl rfl ?_
          refine wp_iconst d_Mod_readFlightLine_125 (v := nI 3) rfl ?_
          refine wp_iadd d_Mod_readFlightLine_126 ?_
          obtain ⟨v85, e84, e42⟩ := ob1_some e42
          refine wa_ald d_Mod_readFlightLine_127 sh_327 e84 ?_
          refine wp_iconst d_Mod_readFlightLine_128 (v := (-1)) rfl ?_
          refine wq_icmp_ne 134 d_Mod_readFlightLine_129 rfl (fun h129 => ?_) (fun h129 => ?_)
          · cases e42
            exact k47 (fun z => h129 (of_decide_eq_true z))
          · cases e42
            exact k45 (decide_eq_true h129)
        refine wp_aload_n d_Mod_readFlightLine_91 rfl rfl ?_
        refine wl_getR d_Mod_readFlightLine_92 lf_Mod_56 sh_312 rfl ?_
        refine wp_iload_n d_Mod_readFlightLine_95 rfl rfl ?_
        refine wp_iconst d_Mod_readFlightLine_96 (v := nI 2) rfl ?_
        refine wp_iadd d_Mod_readFlightLine_97 ?_
        obtain ⟨v87, e86, e29⟩ := ob1_some e29
        refine wa_ald d_Mod_readFlightLine_98 sh_327 e86 ?_
        refine wp_iconst d_Mod_readFlightLine_99 (v := (-1)) rfl ?_
        refine wq_icmp_ne 105 d_Mod_readFlightLine_100 rfl (fun h100 => ?_) (fun h100 => ?_)
        · cases e29
          exact k34 (fun z => h100 (of_decide_eq_true z))
        · cases e29
          exact k32 (decide_eq_true h100)
      · exact k14 (Or.inr h48)
  refine wp_aload_n d_Mod_readFlightLine_16 rfl rfl ?_
  refine wl_getR d_Mod_readFlightLine_17 lf_Mod_56 sh_312 rfl ?_
  refine wp_iload_n d_Mod_readFlightLine_20 rfl rfl ?_
  obtain ⟨v89, e88, e7⟩ := ob1_some e7
  refine wa_ald d_Mod_readFlightLine_21 sh_327 e88 ?_
  refine wp_iconst d_Mod_readFlightLine_22 (v := (-1)) rfl ?_
  refine wq_icmp_ne 28 d_Mod_readFlightLine_23 rfl (fun h23 => ?_) (fun h23 => ?_)
  · cases e7
    exact k12 (fun z => h23 (of_decide_eq_true z))
  · cases e7
    exact k10 (decide_eq_true h23)
def L_Mod_readFlight_1 (z : Nat) (kt : Int32 → mM → Option (Int32 × mM)) : Nat → Int32 → mM → Option (Int32 × mM)
  | 0, _, _ => none
  | n + 1, n_, M =>
    if (F_Mod_isWord (nI 18) M) = true then
    if n_ = (nI 16) then
    ob2 (F_Mod_errs (nI 3) M) fun v14 M15 =>
    some (v14, M15)
    else
    ob2 (ob2 (F_Mod_readFlightLine z ((nI 80) + ((nI 5) * n_)) M) fun v11 M12 =>
    some (decide (v11 = (-1)), M12)) fun x1 M3 =>
    if x1 = true then
    some ((-1), M3)
    else
    L_Mod_readFlight_1 z kt n (n_ + (nI 1)) M3
    else
    kt n_ M
def F_Mod_readFlight (z : Nat) (M : mM) : Option (Int32 × mM) :=
  L_Mod_readFlight_1 z (fun (n_17 : Int32) (M18 : mM) =>
  ob2 (if (M18 312 11) = (nI 0) then
  some (n_17, M18)
  else
  ob2 (F_Mod_errs (nI 1) M18) fun v26 M27 =>
  some (v26, M27)) fun v23 M25 =>
  some (v23, M25)) z (nI 0) M
theorem l_Mod_readFlight_1 {kt : Int32 → mM → Option (Int32 × mM)}  {r : Int32} {M' : mM} (hq : Q (some (.int r)) (lay M')) (K : ∀ (n_r : Int32) (N1 : mM), kt n_r N1 = some (r, M') → wp X (d + 6) f_Mod_readFlight (0, 0) 46 [.ref 312, .int n_r] [] (lay N1) Q) : ∀ (n : Nat) (n_ : Int32) (M : mM), L_Mod_readFlight_1 z kt n n_ M = some (r, M') → wp X (d + 6) f_Mod_readFlight (0, 0) 2 [.ref 312, .int n_] [] (lay M) Q := by
  intro n
  induction n with
  | zero => intro n_ M h; exact nn h
  | succ n ih =>
    intro n_ M h
    refine wp_aload_n d_Mod_readFlight_2 rfl rfl ?_
    refine wp_bipush d_Mod_readFlight_3 (v := nI 18) rfl ?_
    refine wl_callV1 d_Mod_readFlight_5 lc_Mod_isWord lv_Mod_224 rfl sh_312 rfl rfl ⟨rfl, rfl⟩ ⟨by decide, by decide⟩ ?_
    refine s_Mod_isWord (d := d + 5) rfl ?_
    refine wc_eq 46 d_Mod_readFlight_8 rfl (fun h8 => ?_) (fun h8 => ?_)
    · replace h := inn h h8
      exact K _ _ h
    · replace h := ip h h8
      refine wp_iload_n d_Mod_readFlight_11 rfl rfl ?_
      refine wp_bipush d_Mod_readFlight_12 (v := nI 16) rfl ?_
      refine wq_icmp_ne 23 d_Mod_readFlight_14 rfl (fun h14 => ?_) (fun h14 => ?_)
      · replace h := inn h h14
        obtain ⟨x1, M3, e2, h⟩ := ob2_some h
        have k7 : x1 = true → wp X (d + 6) f_Mod_readFlight (0, 0) 37 [.ref 312, .int n_] [] (lay M3) Q := by
          intro x8
          replace h := ip h x8
          refine wp_iconst d_Mod_readFlight_37 (v := (-1)) rfl ?_
          cases h
          exact wp_iret d_Mod_readFlight_38 rfl rfl rfl hq
        have k9 : ¬ x1 = true → wp X (d + 6) f_Mod_readFlight (0, 0) 39 [.ref 312, .int n_] [] (lay M3) Q := by
          intro x10
          replace h := inn h x10
          refine wp_iload_n d_Mod_readFlight_39 rfl rfl ?_
          refine wp_iconst d_Mod_readFlight_40 (v := nI 1) rfl ?_
          refine wp_iadd d_Mod_readFlight_41 ?_
          refine wp_istore_n d_Mod_readFlight_42 rfl (by decide) ?_
          refine wp_goto 2 d_Mod_readFlight_43 rfl ?_
          exact ih _ _ h
        refine wp_aload_n d_Mod_readFlight_23 rfl rfl ?_
        refine wp_bipush d_Mod_readFlight_24 (v := nI 80) rfl ?_
        refine wp_iconst d_Mod_readFlight_26 (v := nI 5) rfl ?_
        refine wp_iload_n d_Mod_readFlight_27 rfl rfl ?_
        refine wp_imul d_Mod_readFlight_28 ?_
        refine wp_iadd d_Mod_readFlight_29 ?_
        obtain ⟨v11, M12, e13, e2⟩ := ob2_some e2
        refine wl_callV1 d_Mod_readFlight_30 lc_Mod_readFlightLine lv_Mod_255 rfl sh_312 rfl rfl ⟨rfl, rfl⟩ ⟨by decide, by decide⟩ ?_
        refine s_Mod_readFlightLine (d := d) e13 ?_
        refine wp_iconst d_Mod_readFlight_33 (v := (-1)) rfl ?_
        refine wq_icmp_ne 39 d_Mod_readFlight_34 rfl (fun h34 => ?_) (fun h34 => ?_)
        · cases e2
          exact k9 (fun z => h34 (of_decide_eq_true z))
        · cases e2
          exact k7 (decide_eq_true h34)
      · replace h := ip h h14
        refine wp_aload_n d_Mod_readFlight_17 rfl rfl ?_
        refine wp_iconst d_Mod_readFlight_18 (v := nI 3) rfl ?_
        obtain ⟨v14, M15, e16, h⟩ := ob2_some h
        refine wl_callV1 d_Mod_readFlight_19 lc_Mod_errs lv_Mod_196 rfl sh_312 rfl rfl ⟨rfl, rfl⟩ ⟨by decide, by decide⟩ ?_
        refine s_Mod_errs (d := d + 5) e16 ?_
        cases h
        exact wp_iret d_Mod_readFlight_22 rfl rfl rfl hq
theorem s_Mod_readFlight {M : mM} {r : Int32} {M' : mM} (h : F_Mod_readFlight z M = some (r, M')) (hq : Q (some (.int r)) (lay M')) : Sp X (d + 6) f_Mod_readFlight [.ref 312] (lay M) Q := by
  refine Sp_of (by decide) rfl (Nat.le_of_ble_eq_true rfl) ?_
  refine wp_iconst d_Mod_readFlight_0 (v := nI 0) rfl ?_
  refine wp_istore_n d_Mod_readFlight_1 rfl (by decide) ?_
  refine l_Mod_readFlight_1 hq ?_ _ _ _ h
  intro n_17 M18 h
  obtain ⟨v23, M25, e24, h⟩ := ob2_some h
  have k22 : wp X (d + 6) f_Mod_readFlight (0, 0) 62 [.ref 312, .int n_17] [.int v23] (lay M25) Q := by
    cases h
    exact wp_iret d_Mod_readFlight_62 rfl rfl rfl hq
  refine wp_aload_n d_Mod_readFlight_46 rfl rfl ?_
  refine wl_getI d_Mod_readFlight_47 lf_Mod_165 sh_312 rfl rfl ?_
  refine wz_ne 57 d_Mod_readFlight_50 rfl (fun h50 => ?_) (fun h50 => ?_)
  · replace e24 := inn e24 h50
    refine wp_aload_n d_Mod_readFlight_57 rfl rfl ?_
    refine wp_iconst d_Mod_readFlight_58 (v := nI 1) rfl ?_
    obtain ⟨v26, M27, e28, e24⟩ := ob2_some e24
    refine wl_callV1 d_Mod_readFlight_59 lc_Mod_errs lv_Mod_196 rfl sh_312 rfl rfl ⟨rfl, rfl⟩ ⟨by decide, by decide⟩ ?_
    refine s_Mod_errs (d := d + 5) e28 ?_
    cases e24
    exact k22
  · replace e24 := ip e24 h50
    refine wp_iload_n d_Mod_readFlight_53 rfl rfl ?_
    cases e24
    refine wp_goto 62 d_Mod_readFlight_54 rfl ?_
    exact k22
def F_Mod_kindOfDeed (M : mM) : Int32 :=
  if (F_Mod_isWord (nI 14) M) = true then
  nI 0
  else
  if (F_Mod_isWord (nI 15) M) = true then
  nI 1
  else
  (if (F_Mod_isWord (nI 26) M) = true then nI 2 else (if (F_Mod_isWord (nI 27) M) = true then nI 3 else (-1)))
theorem s_Mod_kindOfDeed {M : mM} {r : Int32} (h : F_Mod_kindOfDeed M = r) (hq : Q (some (.int r)) (lay M)) : Sp X (d + 1) f_Mod_kindOfDeed [.ref 312] (lay M) Q := by
  refine Sp_of (by decide) rfl (Nat.le_of_ble_eq_true rfl) ?_
  refine wp_aload_n d_Mod_kindOfDeed_0 rfl rfl ?_
  refine wp_bipush d_Mod_kindOfDeed_1 (v := nI 14) rfl ?_
  refine wl_callV1 d_Mod_kindOfDeed_3 lc_Mod_isWord lv_Mod_224 rfl sh_312 rfl rfl ⟨rfl, rfl⟩ ⟨by decide, by decide⟩ ?_
  refine s_Mod_isWord (d := d) rfl ?_
  refine wc_eq 11 d_Mod_kindOfDeed_6 rfl (fun h6 => ?_) (fun h6 => ?_)
  · replace h := inn h h6
    refine wp_aload_n d_Mod_kindOfDeed_11 rfl rfl ?_
    refine wp_bipush d_Mod_kindOfDeed_12 (v := nI 15) rfl ?_
    refine wl_callV1 d_Mod_kindOfDeed_14 lc_Mod_isWord lv_Mod_224 rfl sh_312 rfl rfl ⟨rfl, rfl⟩ ⟨by decide, by decide⟩ ?_
    refine s_Mod_isWord (d := d) rfl ?_
    refine wc_eq 22 d_Mod_kindOfDeed_17 rfl (fun h17 => ?_) (fun h17 => ?_)
    · replace h := inn h h17
      have k2 : wp X (d + 1) f_Mod_kindOfDeed (0, 0) 49 [.ref 312] [.int (if (F_Mod_isWord (nI 26) M) = true then nI 2 else (if (F_Mod_isWord (nI 27) M) = true then nI 3 else (-1)))] (lay M) Q := by
        cases h
        exact wp_iret d_Mod_kindOfDeed_49 rfl rfl rfl hq
      refine wp_aload_n d_Mod_kindOfDeed_22 rfl rfl ?_
      refine wp_bipush d_Mod_kindOfDeed_23 (v := nI 26) rfl ?_
      refine wl_callV1 d_Mod_kindOfDeed_25 lc_Mod_isWord lv_Mod_224 rfl sh_312 rfl rfl ⟨rfl, rfl⟩ ⟨by decide, by decide⟩ ?_
      refine s_Mod_isWord (d := d) rfl ?_
      refine wc_eq 35 d_Mod_kindOfDeed_28 rfl (fun h28 => ?_) (fun h28 => ?_)
      · have k3 : wp X (d + 1) f_Mod_kindOfDeed (0, 0) 49 [.ref 312] [.int (if (F_Mod_isWord (nI 27) M) = true then nI 3 else (-1))] (lay M) Q := by
          exact wj_in h28 (k2)
        refine wp_aload_n d_Mod_kindOfDeed_35 rfl rfl ?_
        refine wp_bipush d_Mod_kindOfDeed_36 (v := nI 27) rfl ?_
        refine wl_callV1 d_Mod_kindOfDeed_38 lc_Mod_isWord lv_Mod_224 rfl sh_312 rfl rfl ⟨rfl, rfl⟩ ⟨by decide, by decide⟩ ?_
        refine s_Mod_isWord (d := d) rfl ?_
        refine wc_eq 48 d_Mod_kindOfDeed_41 rfl (fun h41 => ?_) (fun h41 => ?_)
        · refine wp_iconst d_Mod_kindOfDeed_48 (v := (-1)) rfl ?_
          exact wj_in h41 (k3)
        · refine wp_iconst d_Mod_kindOfDeed_44 (v := nI 3) rfl ?_
          refine wp_goto 49 d_Mod_kindOfDeed_45 rfl ?_
          exact wj_ip h41 (k3)
      · refine wp_iconst d_Mod_kindOfDeed_31 (v := nI 2) rfl ?_
        refine wp_goto 49 d_Mod_kindOfDeed_32 rfl ?_
        exact wj_ip h28 (k2)
    · replace h := ip h h17
      refine wp_iconst d_Mod_kindOfDeed_20 (v := nI 1) rfl ?_
      cases h
      exact wp_iret d_Mod_kindOfDeed_21 rfl rfl rfl hq
  · replace h := ip h h6
    refine wp_iconst d_Mod_kindOfDeed_9 (v := nI 0) rfl ?_
    cases h
    exact wp_iret d_Mod_kindOfDeed_10 rfl rfl rfl hq
def F_Mod_readDeed (z : Nat) (at_ : Int32) (M : mM) : Option (Int32 × mM) :=
  ob2 (F_Mod_readTold z (nI 18) (nI 0) (nI 999) M) fun v1 M2 =>
  ob1 (wa M2 328 128 at_ v1) fun M5 =>
  ob1 (ob1 (ra M5 328 128 at_) fun v83 =>
  some (decide (v83 = (-1)))) fun x6 =>
  if x6 = true then
  some ((-1), M5)
  else
  if (F_Mod_kindOfDeed M5) = (-1) then
  ob2 (F_Mod_errs (nI 1) M5) fun v79 M80 =>
  some (v79, M80)
  else
  ob1 (F_Mod_reads z M5) fun M14 =>
  ob1 (wa M14 328 128 (at_ + (nI 1)) (F_Mod_kindOfDeed M5)) fun M17 =>
  ob2 (F_Mod_readNumber z (if (F_Mod_kindOfDeed M5) = (nI 3) then nI 1 else nI 0) (if (F_Mod_kindOfDeed M5) = (nI 2) then nI 59 else (if (F_Mod_kindOfDeed M5) = (nI 3) then nI 99 else nI 9)) M17) fun v21 M22 =>
  ob1 (wa M22 328 128 (at_ + (nI 2)) v21) fun M25 =>
  ob1 (ob1 (ra M25 328 128 (at_ + (nI 2))) fun v77 =>
  some (decide (v77 = (-1)))) fun x26 =>
  if x26 = true then
  some ((-1), M25)
  else
  ob2 (if (F_Mod_kindOfDeed M5) = (nI 2) then
  ob2 (F_Mod_readNumber z (nI 0) (nI 99) M25) fun v73 M74 =>
  some (v73, M74)
  else
  some (nI 0, M25)) fun v38 M40 =>
  ob1 (wa M40 328 128 (at_ + (nI 3)) v38) fun M42 =>
  ob2 (ob1 (ob1 (ra M42 328 128 (at_ + (nI 3))) fun v72 =>
  some (decide (v72 = (-1)))) fun x60 =>
  if x60 = true then
  some ((-1), M42)
  else
  ob2 (F_Mod_readMark z (nI 59) M42) fun v68 M69 =>
  some (v68, M69)) fun v57 M59 =>
  some (v57, M59)
theorem s_Mod_readDeed {at_ : Int32} {M : mM} {r : Int32} {M' : mM} (h : F_Mod_readDeed z at_ M = some (r, M')) (hq : Q (some (.int r)) (lay M')) : Sp X (d + 5) f_Mod_readDeed [.ref 312, .int at_] (lay M) Q := by
  refine Sp_of (by decide) rfl (Nat.le_of_ble_eq_true rfl) ?_
  refine wp_aload_n d_Mod_readDeed_0 rfl rfl ?_
  refine wl_getR d_Mod_readDeed_1 lf_Mod_59 sh_312 rfl ?_
  refine wp_iload_n d_Mod_readDeed_4 rfl rfl ?_
  refine wp_aload_n d_Mod_readDeed_5 rfl rfl ?_
  refine wp_bipush d_Mod_readDeed_6 (v := nI 18) rfl ?_
  refine wp_iconst d_Mod_readDeed_8 (v := nI 0) rfl ?_
  refine wp_sipush d_Mod_readDeed_9 (v := nI 999) rfl ?_
  obtain ⟨v1, M2, e3, h⟩ := ob2_some h
  refine wl_callV3 d_Mod_readDeed_12 lc_Mod_readTold lv_Mod_249 rfl sh_312 rfl rfl ⟨rfl, rfl⟩ ⟨by decide, by decide⟩ ?_
  refine s_Mod_readTold (d := d) e3 ?_
  obtain ⟨M5, e4, h⟩ := ob1_some h
  refine wa_ast d_Mod_readDeed_15 sh_328 e4 ?_
  obtain ⟨x6, e7, h⟩ := ob1_some h
  have k10 : ∀ u2 : Value, x6 = true → wp X (d + 5) f_Mod_readDeed (0, 0) 26 [.ref 312, .int at_, u2] [] (lay M5) Q := by
    intro u2 x11
    replace h := ip h x11
    refine wp_iconst d_Mod_readDeed_26 (v := (-1)) rfl ?_
    cases h
    exact wp_iret d_Mod_readDeed_27 rfl rfl rfl hq
  have k12 : ∀ u2 : Value, ¬ x6 = true → wp X (d + 5) f_Mod_readDeed (0, 0) 28 [.ref 312, .int at_, u2] [] (lay M5) Q := by
    intro u2 x13
    replace h := inn h x13
    refine wp_aload_n d_Mod_readDeed_28 rfl rfl ?_
    refine wl_callV0 d_Mod_readDeed_29 lc_Mod_kindOfDeed lv_Mod_258 rfl sh_312 rfl rfl ⟨rfl, rfl⟩ ⟨by decide, by decide⟩ ?_
    refine s_Mod_kindOfDeed (d := d + 3) rfl ?_
    refine wp_istore_n d_Mod_readDeed_32 rfl (by decide) ?_
    refine wp_iload_n d_Mod_readDeed_33 rfl rfl ?_
    refine wp_iconst d_Mod_readDeed_34 (v := (-1)) rfl ?_
    refine wq_icmp_ne 44 d_Mod_readDeed_35 rfl (fun h35 => ?_) (fun h35 => ?_)
    · replace h := inn h h35
      refine wp_aload_n d_Mod_readDeed_44 rfl rfl ?_
      obtain ⟨M14, e15, h⟩ := ob1_some h
      refine wl_callV0 d_Mod_readDeed_45 lc_Mod_reads lv_Mod_202 rfl sh_312 rfl rfl ⟨rfl, rfl⟩ ⟨by decide, by decide⟩ ?_
      refine s_Mod_reads (d := d + 2) e15 ?_
      refine wp_aload_n d_Mod_readDeed_48 rfl rfl ?_
      refine wl_getR d_Mod_readDeed_49 lf_Mod_59 sh_312 rfl ?_
      refine wp_iload_n d_Mod_readDeed_52 rfl rfl ?_
      refine wp_iconst d_Mod_readDeed_53 (v := nI 1) rfl ?_
      refine wp_iadd d_Mod_readDeed_54 ?_
      refine wp_iload_n d_Mod_readDeed_55 rfl rfl ?_
      obtain ⟨M17, e16, h⟩ := ob1_some h
      refine wa_ast d_Mod_readDeed_56 sh_328 e16 ?_
      refine wp_aload_n d_Mod_readDeed_57 rfl rfl ?_
      refine wl_getR d_Mod_readDeed_58 lf_Mod_59 sh_312 rfl ?_
      refine wp_iload_n d_Mod_readDeed_61 rfl rfl ?_
      refine wp_iconst d_Mod_readDeed_62 (v := nI 2) rfl ?_
      refine wp_iadd d_Mod_readDeed_63 ?_
      refine wp_aload_n d_Mod_readDeed_64 rfl rfl ?_
      have k18 : wp X (d + 5) f_Mod_readDeed (0, 0) 75 [.ref 312, .int at_, .int (F_Mod_kindOfDeed M5)] [.int (if (F_Mod_kindOfDeed M5) = (nI 3) then nI 1 else nI 0), .ref 312, .int (at_ + (nI 2)), .ref 328] (lay M17) Q := by
        have k20 : wp X (d + 5) f_Mod_readDeed (0, 0) 97 [.ref 312, .int at_, .int (F_Mod_kindOfDeed M5)] [.int (if (F_Mod_kindOfDeed M5) = (nI 2) then nI 59 else (if (F_Mod_kindOfDeed M5) = (nI 3) then nI 99 else nI 9)), .int (if (F_Mod_kindOfDeed M5) = (nI 3) then nI 1 else nI 0), .ref 312, .int (at_ + (nI 2)), .ref 328] (lay M17) Q := by
          obtain ⟨v21, M22, e23, h⟩ := ob2_some h
          refine wl_callV2 d_Mod_readDeed_97 lc_Mod_readNumber lv_Mod_246 rfl sh_312 rfl rfl ⟨rfl, rfl⟩ ⟨by decide, by decide⟩ ?_
          refine s_Mod_readNumber (d := d + 1) e23 ?_
          obtain ⟨M25, e24, h⟩ := ob1_some h
          refine wa_ast d_Mod_readDeed_100 sh_328 e24 ?_
          obtain ⟨x26, e27, h⟩ := ob1_some h
          have k30 : x26 = true → wp X (d + 5) f_Mod_readDeed (0, 0) 113 [.ref 312, .int at_, .int (F_Mod_kindOfDeed M5)] [] (lay M25) Q := by
            intro x31
            replace h := ip h x31
            refine wp_iconst d_Mod_readDeed_113 (v := (-1)) rfl ?_
            cases h
            exact wp_iret d_Mod_readDeed_114 rfl rfl rfl hq
          have k32 : ¬ x26 = true → wp X (d + 5) f_Mod_readDeed (0, 0) 115 [.ref 312, .int at_, .int (F_Mod_kindOfDeed M5)] [] (lay M25) Q := by
            intro x33
            replace h := inn h x33
            refine wp_aload_n d_Mod_readDeed_115 rfl rfl ?_
            refine wl_getR d_Mod_readDeed_116 lf_Mod_59 sh_312 rfl ?_
            refine wp_iload_n d_Mod_readDeed_119 rfl rfl ?_
            refine wp_iconst d_Mod_readDeed_120 (v := nI 3) rfl ?_
            refine wp_iadd d_Mod_readDeed_121 ?_
            obtain ⟨v38, M40, e39, h⟩ := ob2_some h
            have k37 : wp X (d + 5) f_Mod_readDeed (0, 0) 138 [.ref 312, .int at_, .int (F_Mod_kindOfDeed M5)] [.int v38, .int (at_ + (nI 3)), .ref 328] (lay M40) Q := by
              obtain ⟨M42, e41, h⟩ := ob1_some h
              refine wa_ast d_Mod_readDeed_138 sh_328 e41 ?_
              obtain ⟨v57, M59, e58, h⟩ := ob2_some h
              have k56 : wp X (d + 5) f_Mod_readDeed (0, 0) 161 [.ref 312, .int at_, .int (F_Mod_kindOfDeed M5)] [.int v57] (lay M59) Q := by
                cases h
                exact wp_iret d_Mod_readDeed_161 rfl rfl rfl hq
              obtain ⟨x60, e61, e58⟩ := ob1_some e58
              have k64 : x60 = true → wp X (d + 5) f_Mod_readDeed (0, 0) 151 [.ref 312, .int at_, .int (F_Mod_kindOfDeed M5)] [] (lay M42) Q := by
                intro x65
                replace e58 := ip e58 x65
                refine wp_iconst d_Mod_readDeed_151 (v := (-1)) rfl ?_
                cases e58
                refine wp_goto 161 d_Mod_readDeed_152 rfl ?_
                exact k56
              have k66 : ¬ x60 = true → wp X (d + 5) f_Mod_readDeed (0, 0) 155 [.ref 312, .int at_, .int (F_Mod_kindOfDeed M5)] [] (lay M42) Q := by
                intro x67
                replace e58 := inn e58 x67
                refine wp_aload_n d_Mod_readDeed_155 rfl rfl ?_
                refine wp_bipush d_Mod_readDeed_156 (v := nI 59) rfl ?_
                obtain ⟨v68, M69, e70, e58⟩ := ob2_some e58
                refine wl_callV1 d_Mod_readDeed_158 lc_Mod_readMark lv_Mod_252 rfl sh_312 rfl rfl ⟨rfl, rfl⟩ ⟨by decide, by decide⟩ ?_
                refine s_Mod_readMark (d := d + 1) e70 ?_
                cases e58
                exact k56
              refine wp_aload_n d_Mod_readDeed_139 rfl rfl ?_
              refine wl_getR d_Mod_readDeed_140 lf_Mod_59 sh_312 rfl ?_
              refine wp_iload_n d_Mod_readDeed_143 rfl rfl ?_
              refine wp_iconst d_Mod_readDeed_144 (v := nI 3) rfl ?_
              refine wp_iadd d_Mod_readDeed_145 ?_
              obtain ⟨v72, e71, e61⟩ := ob1_some e61
              refine wa_ald d_Mod_readDeed_146 sh_328 e71 ?_
              refine wp_iconst d_Mod_readDeed_147 (v := (-1)) rfl ?_
              refine wq_icmp_ne 155 d_Mod_readDeed_148 rfl (fun h148 => ?_) (fun h148 => ?_)
              · cases e61
                exact k66 (fun z => h148 (of_decide_eq_true z))
              · cases e61
                exact k64 (decide_eq_true h148)
            refine wp_iload_n d_Mod_readDeed_122 rfl rfl ?_
            refine wp_iconst d_Mod_readDeed_123 (v := nI 2) rfl ?_
            refine wq_icmp_ne 137 d_Mod_readDeed_124 rfl (fun h124 => ?_) (fun h124 => ?_)
            · replace e39 := inn e39 h124
              refine wp_iconst d_Mod_readDeed_137 (v := nI 0) rfl ?_
              cases e39
              exact k37
            · replace e39 := ip e39 h124
              refine wp_aload_n d_Mod_readDeed_127 rfl rfl ?_
              refine wp_iconst d_Mod_readDeed_128 (v := nI 0) rfl ?_
              refine wp_bipush d_Mod_readDeed_129 (v := nI 99) rfl ?_
              obtain ⟨v73, M74, e75, e39⟩ := ob2_some e39
              refine wl_callV2 d_Mod_readDeed_131 lc_Mod_readNumber lv_Mod_246 rfl sh_312 rfl rfl ⟨rfl, rfl⟩ ⟨by decide, by decide⟩ ?_
              refine s_Mod_readNumber (d := d + 1) e75 ?_
              cases e39
              refine wp_goto 138 d_Mod_readDeed_134 rfl ?_
              exact k37
          refine wp_aload_n d_Mod_readDeed_101 rfl rfl ?_
          refine wl_getR d_Mod_readDeed_102 lf_Mod_59 sh_312 rfl ?_
          refine wp_iload_n d_Mod_readDeed_105 rfl rfl ?_
          refine wp_iconst d_Mod_readDeed_106 (v := nI 2) rfl ?_
          refine wp_iadd d_Mod_readDeed_107 ?_
          obtain ⟨v77, e76, e27⟩ := ob1_some e27
          refine wa_ald d_Mod_readDeed_108 sh_328 e76 ?_
          refine wp_iconst d_Mod_readDeed_109 (v := (-1)) rfl ?_
          refine wq_icmp_ne 115 d_Mod_readDeed_110 rfl (fun h110 => ?_) (fun h110 => ?_)
          · cases e27
            exact k32 (fun z => h110 (of_decide_eq_true z))
          · cases e27
            exact k30 (decide_eq_true h110)
        refine wp_iload_n d_Mod_readDeed_75 rfl rfl ?_
        refine wp_iconst d_Mod_readDeed_76 (v := nI 2) rfl ?_
        refine wq_icmp_ne 85 d_Mod_readDeed_77 rfl (fun h77 => ?_) (fun h77 => ?_)
        · have k78 : wp X (d + 5) f_Mod_readDeed (0, 0) 97 [.ref 312, .int at_, .int (F_Mod_kindOfDeed M5)] [.int (if (F_Mod_kindOfDeed M5) = (nI 3) then nI 99 else nI 9), .int (if (F_Mod_kindOfDeed M5) = (nI 3) then nI 1 else nI 0), .ref 312, .int (at_ + (nI 2)), .ref 328] (lay M17) Q := by
            exact wj_in h77 (k20)
          refine wp_iload_n d_Mod_readDeed_85 rfl rfl ?_
          refine wp_iconst d_Mod_readDeed_86 (v := nI 3) rfl ?_
          refine wq_icmp_ne 95 d_Mod_readDeed_87 rfl (fun h87 => ?_) (fun h87 => ?_)
          · refine wp_bipush d_Mod_readDeed_95 (v := nI 9) rfl ?_
            exact wj_in h87 (k78)
          · refine wp_bipush d_Mod_readDeed_90 (v := nI 99) rfl ?_
            refine wp_goto 97 d_Mod_readDeed_92 rfl ?_
            exact wj_ip h87 (k78)
        · refine wp_bipush d_Mod_readDeed_80 (v := nI 59) rfl ?_
          refine wp_goto 97 d_Mod_readDeed_82 rfl ?_
          exact wj_ip h77 (k20)
      refine wp_iload_n d_Mod_readDeed_65 rfl rfl ?_
      refine wp_iconst d_Mod_readDeed_66 (v := nI 3) rfl ?_
      refine wq_icmp_ne 74 d_Mod_readDeed_67 rfl (fun h67 => ?_) (fun h67 => ?_)
      · refine wp_iconst d_Mod_readDeed_74 (v := nI 0) rfl ?_
        exact wj_in h67 (k18)
      · refine wp_iconst d_Mod_readDeed_70 (v := nI 1) rfl ?_
        refine wp_goto 75 d_Mod_readDeed_71 rfl ?_
        exact wj_ip h67 (k18)
    · replace h := ip h h35
      refine wp_aload_n d_Mod_readDeed_38 rfl rfl ?_
      refine wp_iconst d_Mod_readDeed_39 (v := nI 1) rfl ?_
      obtain ⟨v79, M80, e81, h⟩ := ob2_some h
      refine wl_callV1 d_Mod_readDeed_40 lc_Mod_errs lv_Mod_196 rfl sh_312 rfl rfl ⟨rfl, rfl⟩ ⟨by decide, by decide⟩ ?_
      refine s_Mod_errs (d := d + 4) e81 ?_
      cases h
      exact wp_iret d_Mod_readDeed_43 rfl rfl rfl hq
  refine wp_aload_n d_Mod_readDeed_16 rfl rfl ?_
  refine wl_getR d_Mod_readDeed_17 lf_Mod_59 sh_312 rfl ?_
  refine wp_iload_n d_Mod_readDeed_20 rfl rfl ?_
  obtain ⟨v83, e82, e7⟩ := ob1_some e7
  refine wa_ald d_Mod_readDeed_21 sh_328 e82 ?_
  refine wp_iconst d_Mod_readDeed_22 (v := (-1)) rfl ?_
  refine wq_icmp_ne 28 d_Mod_readDeed_23 rfl (fun h23 => ?_) (fun h23 => ?_)
  · cases e7
    exact k12 _ (fun z => h23 (of_decide_eq_true z))
  · cases e7
    exact k10 _ (decide_eq_true h23)
def L_Mod_readSky_1 (z : Nat) (kt : Int32 → mM → Option (Int32 × mM)) : Nat → Int32 → mM → Option (Int32 × mM)
  | 0, _, _ => none
  | n + 1, n_, M =>
    if (F_Mod_isWord (nI 18) M) = true then
    if n_ = (nI 16) then
    ob2 (F_Mod_errs (nI 3) M) fun v14 M15 =>
    some (v14, M15)
    else
    ob2 (ob2 (F_Mod_readDeed z ((nI 64) + ((nI 4) * n_)) M) fun v11 M12 =>
    some (decide (v11 = (-1)), M12)) fun x1 M3 =>
    if x1 = true then
    some ((-1), M3)
    else
    L_Mod_readSky_1 z kt n (n_ + (nI 1)) M3
    else
    kt n_ M
def F_Mod_readSky (z : Nat) (M : mM) : Option (Int32 × mM) :=
  L_Mod_readSky_1 z (fun (n_17 : Int32) (M18 : mM) =>
  ob2 (if (M18 312 11) = (nI 0) then
  some (n_17, M18)
  else
  ob2 (F_Mod_errs (nI 1) M18) fun v26 M27 =>
  some (v26, M27)) fun v23 M25 =>
  some (v23, M25)) z (nI 0) M
theorem l_Mod_readSky_1 {kt : Int32 → mM → Option (Int32 × mM)}  {r : Int32} {M' : mM} (hq : Q (some (.int r)) (lay M')) (K : ∀ (n_r : Int32) (N1 : mM), kt n_r N1 = some (r, M') → wp X (d + 6) f_Mod_readSky (0, 0) 46 [.ref 312, .int n_r] [] (lay N1) Q) : ∀ (n : Nat) (n_ : Int32) (M : mM), L_Mod_readSky_1 z kt n n_ M = some (r, M') → wp X (d + 6) f_Mod_readSky (0, 0) 2 [.ref 312, .int n_] [] (lay M) Q := by
  intro n
  induction n with
  | zero => intro n_ M h; exact nn h
  | succ n ih =>
    intro n_ M h
    refine wp_aload_n d_Mod_readSky_2 rfl rfl ?_
    refine wp_bipush d_Mod_readSky_3 (v := nI 18) rfl ?_
    refine wl_callV1 d_Mod_readSky_5 lc_Mod_isWord lv_Mod_224 rfl sh_312 rfl rfl ⟨rfl, rfl⟩ ⟨by decide, by decide⟩ ?_
    refine s_Mod_isWord (d := d + 5) rfl ?_
    refine wc_eq 46 d_Mod_readSky_8 rfl (fun h8 => ?_) (fun h8 => ?_)
    · replace h := inn h h8
      exact K _ _ h
    · replace h := ip h h8
      refine wp_iload_n d_Mod_readSky_11 rfl rfl ?_
      refine wp_bipush d_Mod_readSky_12 (v := nI 16) rfl ?_
      refine wq_icmp_ne 23 d_Mod_readSky_14 rfl (fun h14 => ?_) (fun h14 => ?_)
      · replace h := inn h h14
        obtain ⟨x1, M3, e2, h⟩ := ob2_some h
        have k7 : x1 = true → wp X (d + 6) f_Mod_readSky (0, 0) 37 [.ref 312, .int n_] [] (lay M3) Q := by
          intro x8
          replace h := ip h x8
          refine wp_iconst d_Mod_readSky_37 (v := (-1)) rfl ?_
          cases h
          exact wp_iret d_Mod_readSky_38 rfl rfl rfl hq
        have k9 : ¬ x1 = true → wp X (d + 6) f_Mod_readSky (0, 0) 39 [.ref 312, .int n_] [] (lay M3) Q := by
          intro x10
          replace h := inn h x10
          refine wp_iload_n d_Mod_readSky_39 rfl rfl ?_
          refine wp_iconst d_Mod_readSky_40 (v := nI 1) rfl ?_
          refine wp_iadd d_Mod_readSky_41 ?_
          refine wp_istore_n d_Mod_readSky_42 rfl (by decide) ?_
          refine wp_goto 2 d_Mod_readSky_43 rfl ?_
          exact ih _ _ h
        refine wp_aload_n d_Mod_readSky_23 rfl rfl ?_
        refine wp_bipush d_Mod_readSky_24 (v := nI 64) rfl ?_
        refine wp_iconst d_Mod_readSky_26 (v := nI 4) rfl ?_
        refine wp_iload_n d_Mod_readSky_27 rfl rfl ?_
        refine wp_imul d_Mod_readSky_28 ?_
        refine wp_iadd d_Mod_readSky_29 ?_
        obtain ⟨v11, M12, e13, e2⟩ := ob2_some e2
        refine wl_callV1 d_Mod_readSky_30 lc_Mod_readDeed lv_Mod_261 rfl sh_312 rfl rfl ⟨rfl, rfl⟩ ⟨by decide, by decide⟩ ?_
        refine s_Mod_readDeed (d := d) e13 ?_
        refine wp_iconst d_Mod_readSky_33 (v := (-1)) rfl ?_
        refine wq_icmp_ne 39 d_Mod_readSky_34 rfl (fun h34 => ?_) (fun h34 => ?_)
        · cases e2
          exact k9 (fun z => h34 (of_decide_eq_true z))
        · cases e2
          exact k7 (decide_eq_true h34)
      · replace h := ip h h14
        refine wp_aload_n d_Mod_readSky_17 rfl rfl ?_
        refine wp_iconst d_Mod_readSky_18 (v := nI 3) rfl ?_
        obtain ⟨v14, M15, e16, h⟩ := ob2_some h
        refine wl_callV1 d_Mod_readSky_19 lc_Mod_errs lv_Mod_196 rfl sh_312 rfl rfl ⟨rfl, rfl⟩ ⟨by decide, by decide⟩ ?_
        refine s_Mod_errs (d := d + 5) e16 ?_
        cases h
        exact wp_iret d_Mod_readSky_22 rfl rfl rfl hq
theorem s_Mod_readSky {M : mM} {r : Int32} {M' : mM} (h : F_Mod_readSky z M = some (r, M')) (hq : Q (some (.int r)) (lay M')) : Sp X (d + 6) f_Mod_readSky [.ref 312] (lay M) Q := by
  refine Sp_of (by decide) rfl (Nat.le_of_ble_eq_true rfl) ?_
  refine wp_iconst d_Mod_readSky_0 (v := nI 0) rfl ?_
  refine wp_istore_n d_Mod_readSky_1 rfl (by decide) ?_
  refine l_Mod_readSky_1 hq ?_ _ _ _ h
  intro n_17 M18 h
  obtain ⟨v23, M25, e24, h⟩ := ob2_some h
  have k22 : wp X (d + 6) f_Mod_readSky (0, 0) 62 [.ref 312, .int n_17] [.int v23] (lay M25) Q := by
    cases h
    exact wp_iret d_Mod_readSky_62 rfl rfl rfl hq
  refine wp_aload_n d_Mod_readSky_46 rfl rfl ?_
  refine wl_getI d_Mod_readSky_47 lf_Mod_165 sh_312 rfl rfl ?_
  refine wz_ne 57 d_Mod_readSky_50 rfl (fun h50 => ?_) (fun h50 => ?_)
  · replace e24 := inn e24 h50
    refine wp_aload_n d_Mod_readSky_57 rfl rfl ?_
    refine wp_iconst d_Mod_readSky_58 (v := nI 1) rfl ?_
    obtain ⟨v26, M27, e28, e24⟩ := ob2_some e24
    refine wl_callV1 d_Mod_readSky_59 lc_Mod_errs lv_Mod_196 rfl sh_312 rfl rfl ⟨rfl, rfl⟩ ⟨by decide, by decide⟩ ?_
    refine s_Mod_errs (d := d + 5) e28 ?_
    cases e24
    exact k22
  · replace e24 := ip e24 h50
    refine wp_iload_n d_Mod_readSky_53 rfl rfl ?_
    cases e24
    refine wp_goto 62 d_Mod_readSky_54 rfl ?_
    exact k22
def F_Mod_readStrip (z : Nat) (M : mM) : Option (Int32 × mM) :=
  ob2 (F_Mod_readTold z (nI 28) (nI 0) (nI 11) M) fun v1 M2 =>
  if v1 = (-1) then
  some ((-1), M2)
  else
  if ¬ ((F_Mod_isWord (nI 18) M2) = true) then
  ob2 (F_Mod_errs (nI 1) M2) fun v26 M27 =>
  some (v26, M27)
  else
  ob1 (F_Mod_reads z M2) fun M4 =>
  if ¬ ((F_Mod_isWord (nI 28) M4) = true) then
  ob2 (F_Mod_errs (nI 1) M4) fun v23 M24 =>
  some (v23, M24)
  else
  ob1 (F_Mod_reads z M4) fun M6 =>
  if ((M6 312 11) = (nI 3) ∧ (M6 312 12) = v1) then
  ob2 (F_Mod_errs (nI 2) M6) fun v20 M21 =>
  some (v20, M21)
  else
  ob2 (F_Mod_readNumber z (nI 0) (nI 11) M6) fun v10 M11 =>
  if v10 = (-1) then
  some ((-1), M11)
  else
  ob1 (ra M11 329 24 ((nI 12) + v1)) fun v14 =>
  ob1 (wa M11 329 24 ((nI 12) + v1) (v14 ||| (jshl (nI 1) v10))) fun M16 =>
  ob2 (F_Mod_readMark z (nI 59) M16) fun v17 M18 =>
  some (v17, M18)
theorem s_Mod_readStrip {M : mM} {r : Int32} {M' : mM} (h : F_Mod_readStrip z M = some (r, M')) (hq : Q (some (.int r)) (lay M')) : Sp X (d + 5) f_Mod_readStrip [.ref 312] (lay M) Q := by
  refine Sp_of (by decide) rfl (Nat.le_of_ble_eq_true rfl) ?_
  refine wp_aload_n d_Mod_readStrip_0 rfl rfl ?_
  refine wp_bipush d_Mod_readStrip_1 (v := nI 28) rfl ?_
  refine wp_iconst d_Mod_readStrip_3 (v := nI 0) rfl ?_
  refine wp_bipush d_Mod_readStrip_4 (v := nI 11) rfl ?_
  obtain ⟨v1, M2, e3, h⟩ := ob2_some h
  refine wl_callV3 d_Mod_readStrip_6 lc_Mod_readTold lv_Mod_249 rfl sh_312 rfl rfl ⟨rfl, rfl⟩ ⟨by decide, by decide⟩ ?_
  refine s_Mod_readTold (d := d) e3 ?_
  refine wp_istore_n d_Mod_readStrip_9 rfl (by decide) ?_
  refine wp_iload_n d_Mod_readStrip_10 rfl rfl ?_
  refine wp_iconst d_Mod_readStrip_11 (v := (-1)) rfl ?_
  refine wq_icmp_ne 17 d_Mod_readStrip_12 rfl (fun h12 => ?_) (fun h12 => ?_)
  · replace h := inn h h12
    refine wp_aload_n d_Mod_readStrip_17 rfl rfl ?_
    refine wp_bipush d_Mod_readStrip_18 (v := nI 18) rfl ?_
    refine wl_callV1 d_Mod_readStrip_20 lc_Mod_isWord lv_Mod_224 rfl sh_312 rfl rfl ⟨rfl, rfl⟩ ⟨by decide, by decide⟩ ?_
    refine s_Mod_isWord (d := d + 4) rfl ?_
    refine wc_ne 32 d_Mod_readStrip_23 rfl (fun h23 => ?_) (fun h23 => ?_)
    · replace h := inn h (fun z => z h23)
      refine wp_aload_n d_Mod_readStrip_32 rfl rfl ?_
      obtain ⟨M4, e5, h⟩ := ob1_some h
      refine wl_callV0 d_Mod_readStrip_33 lc_Mod_reads lv_Mod_202 rfl sh_312 rfl rfl ⟨rfl, rfl⟩ ⟨by decide, by decide⟩ ?_
      refine s_Mod_reads (d := d + 2) e5 ?_
      refine wp_aload_n d_Mod_readStrip_36 rfl rfl ?_
      refine wp_bipush d_Mod_readStrip_37 (v := nI 28) rfl ?_
      refine wl_callV1 d_Mod_readStrip_39 lc_Mod_isWord lv_Mod_224 rfl sh_312 rfl rfl ⟨rfl, rfl⟩ ⟨by decide, by decide⟩ ?_
      refine s_Mod_isWord (d := d + 4) rfl ?_
      refine wc_ne 51 d_Mod_readStrip_42 rfl (fun h42 => ?_) (fun h42 => ?_)
      · replace h := inn h (fun z => z h42)
        refine wp_aload_n d_Mod_readStrip_51 rfl rfl ?_
        obtain ⟨M6, e7, h⟩ := ob1_some h
        refine wl_callV0 d_Mod_readStrip_52 lc_Mod_reads lv_Mod_202 rfl sh_312 rfl rfl ⟨rfl, rfl⟩ ⟨by decide, by decide⟩ ?_
        refine s_Mod_reads (d := d + 2) e7 ?_
        have k8 : ∀ u2 : Value, ¬ ((M6 312 11) = (nI 3) ∧ (M6 312 12) = v1) → wp X (d + 5) f_Mod_readStrip (0, 0) 77 [.ref 312, .int v1, u2] [] (lay M6) Q := by
          intro u2 x9
          replace h := inn h x9
          refine wp_aload_n d_Mod_readStrip_77 rfl rfl ?_
          refine wp_iconst d_Mod_readStrip_78 (v := nI 0) rfl ?_
          refine wp_bipush d_Mod_readStrip_79 (v := nI 11) rfl ?_
          obtain ⟨v10, M11, e12, h⟩ := ob2_some h
          refine wl_callV2 d_Mod_readStrip_81 lc_Mod_readNumber lv_Mod_246 rfl sh_312 rfl rfl ⟨rfl, rfl⟩ ⟨by decide, by decide⟩ ?_
          refine s_Mod_readNumber (d := d + 1) e12 ?_
          refine wp_istore_n d_Mod_readStrip_84 rfl (by decide) ?_
          refine wp_iload_n d_Mod_readStrip_85 rfl rfl ?_
          refine wp_iconst d_Mod_readStrip_86 (v := (-1)) rfl ?_
          refine wq_icmp_ne 92 d_Mod_readStrip_87 rfl (fun h87 => ?_) (fun h87 => ?_)
          · replace h := inn h h87
            refine wp_aload_n d_Mod_readStrip_92 rfl rfl ?_
            refine wl_getR d_Mod_readStrip_93 lf_Mod_62 sh_312 rfl ?_
            refine wp_bipush d_Mod_readStrip_96 (v := nI 12) rfl ?_
            refine wp_iload_n d_Mod_readStrip_98 rfl rfl ?_
            refine wp_iadd d_Mod_readStrip_99 ?_
            refine wp_aload_n d_Mod_readStrip_100 rfl rfl ?_
            refine wl_getR d_Mod_readStrip_101 lf_Mod_62 sh_312 rfl ?_
            refine wp_bipush d_Mod_readStrip_104 (v := nI 12) rfl ?_
            refine wp_iload_n d_Mod_readStrip_106 rfl rfl ?_
            refine wp_iadd d_Mod_readStrip_107 ?_
            obtain ⟨v14, e13, h⟩ := ob1_some h
            refine wa_ald d_Mod_readStrip_108 sh_329 e13 ?_
            refine wp_iconst d_Mod_readStrip_109 (v := nI 1) rfl ?_
            refine wp_iload_n d_Mod_readStrip_110 rfl rfl ?_
            refine wp_ishl d_Mod_readStrip_111 ?_
            refine wp_ior d_Mod_readStrip_112 ?_
            obtain ⟨M16, e15, h⟩ := ob1_some h
            refine wa_ast d_Mod_readStrip_113 sh_329 e15 ?_
            refine wp_aload_n d_Mod_readStrip_114 rfl rfl ?_
            refine wp_bipush d_Mod_readStrip_115 (v := nI 59) rfl ?_
            obtain ⟨v17, M18, e19, h⟩ := ob2_some h
            refine wl_callV1 d_Mod_readStrip_117 lc_Mod_readMark lv_Mod_252 rfl sh_312 rfl rfl ⟨rfl, rfl⟩ ⟨by decide, by decide⟩ ?_
            refine s_Mod_readMark (d := d + 1) e19 ?_
            cases h
            exact wp_iret d_Mod_readStrip_120 rfl rfl rfl hq
          · replace h := ip h h87
            refine wp_iconst d_Mod_readStrip_90 (v := (-1)) rfl ?_
            cases h
            exact wp_iret d_Mod_readStrip_91 rfl rfl rfl hq
        refine wp_aload_n d_Mod_readStrip_55 rfl rfl ?_
        refine wl_getI d_Mod_readStrip_56 lf_Mod_165 sh_312 rfl rfl ?_
        refine wp_iconst d_Mod_readStrip_59 (v := nI 3) rfl ?_
        refine wq_icmp_ne 77 d_Mod_readStrip_60 rfl (fun h60 => ?_) (fun h60 => ?_)
        · exact k8 _ (fun z => h60 z.1)
        · refine wp_aload_n d_Mod_readStrip_63 rfl rfl ?_
          refine wl_getI d_Mod_readStrip_64 lf_Mod_168 sh_312 rfl rfl ?_
          refine wp_iload_n d_Mod_readStrip_67 rfl rfl ?_
          refine wq_icmp_ne 77 d_Mod_readStrip_68 rfl (fun h68 => ?_) (fun h68 => ?_)
          · exact k8 _ (fun z => h68 z.2)
          · replace h := ip h ⟨h60, h68⟩
            refine wp_aload_n d_Mod_readStrip_71 rfl rfl ?_
            refine wp_iconst d_Mod_readStrip_72 (v := nI 2) rfl ?_
            obtain ⟨v20, M21, e22, h⟩ := ob2_some h
            refine wl_callV1 d_Mod_readStrip_73 lc_Mod_errs lv_Mod_196 rfl sh_312 rfl rfl ⟨rfl, rfl⟩ ⟨by decide, by decide⟩ ?_
            refine s_Mod_errs (d := d + 4) e22 ?_
            cases h
            exact wp_iret d_Mod_readStrip_76 rfl rfl rfl hq
      · replace h := ip h h42
        refine wp_aload_n d_Mod_readStrip_45 rfl rfl ?_
        refine wp_iconst d_Mod_readStrip_46 (v := nI 1) rfl ?_
        obtain ⟨v23, M24, e25, h⟩ := ob2_some h
        refine wl_callV1 d_Mod_readStrip_47 lc_Mod_errs lv_Mod_196 rfl sh_312 rfl rfl ⟨rfl, rfl⟩ ⟨by decide, by decide⟩ ?_
        refine s_Mod_errs (d := d + 4) e25 ?_
        cases h
        exact wp_iret d_Mod_readStrip_50 rfl rfl rfl hq
    · replace h := ip h h23
      refine wp_aload_n d_Mod_readStrip_26 rfl rfl ?_
      refine wp_iconst d_Mod_readStrip_27 (v := nI 1) rfl ?_
      obtain ⟨v26, M27, e28, h⟩ := ob2_some h
      refine wl_callV1 d_Mod_readStrip_28 lc_Mod_errs lv_Mod_196 rfl sh_312 rfl rfl ⟨rfl, rfl⟩ ⟨by decide, by decide⟩ ?_
      refine s_Mod_errs (d := d + 4) e28 ?_
      cases h
      exact wp_iret d_Mod_readStrip_31 rfl rfl rfl hq
  · replace h := ip h h12
    refine wp_iconst d_Mod_readStrip_15 (v := (-1)) rfl ?_
    cases h
    exact wp_iret d_Mod_readStrip_16 rfl rfl rfl hq
def L_Mod_readStrips_1 (z : Nat) : Nat → Int32 → mM → Option (mM)
  | 0, _, _ => none
  | n + 1, k_, M =>
    if k_ < (nI 12) then
    ob1 (wa M 329 24 ((nI 12) + k_) (nI 0)) fun M2 =>
    L_Mod_readStrips_1 z n (k_ + nI 1) M2
    else
    some (M)
def L_Mod_readStrips_2 (z : Nat) (kt : Int32 → mM → Option (Int32 × mM)) : Nat → Int32 → mM → Option (Int32 × mM)
  | 0, _, _ => none
  | n + 1, n_, M =>
    if (F_Mod_isWord (nI 28) M) = true then
    if n_ = (nI 16) then
    ob2 (F_Mod_errs (nI 3) M) fun v17 M18 =>
    some (v17, M18)
    else
    ob2 (ob2 (F_Mod_readStrip z M) fun v14 M15 =>
    some (decide (v14 = (-1)), M15)) fun x4 M6 =>
    if x4 = true then
    some ((-1), M6)
    else
    L_Mod_readStrips_2 z kt n (n_ + (nI 1)) M6
    else
    kt n_ M
def F_Mod_readStrips (z : Nat) (M : mM) : Option (Int32 × mM) :=
  ob1 (L_Mod_readStrips_1 z z (nI 0) M) fun M3 =>
  L_Mod_readStrips_2 z (fun (n_20 : Int32) (M21 : mM) =>
  ob2 (if (M21 312 11) = (nI 0) then
  some (n_20, M21)
  else
  ob2 (F_Mod_errs (nI 1) M21) fun v29 M30 =>
  some (v29, M30)) fun v26 M28 =>
  some (v26, M28)) z (nI 0) M3
theorem l_Mod_readStrips_1  {N' : mM} (K : ∀ u1 : Value, wp X (d + 6) f_Mod_readStrips (0, 0) 24 [.ref 312, u1] [] (lay N') Q) : ∀ (n : Nat) (k_ : Int32) (M : mM), L_Mod_readStrips_1 z n k_ M = some (N') → wp X (d + 6) f_Mod_readStrips (0, 0) 2 [.ref 312, .int k_] [] (lay M) Q := by
  intro n
  induction n with
  | zero => intro k_ M h; exact nn h
  | succ n ih =>
    intro k_ M h
    refine wp_iload_n d_Mod_readStrips_2 rfl rfl ?_
    refine wp_bipush d_Mod_readStrips_3 (v := nI 12) rfl ?_
    refine wq_icmp_ge 24 d_Mod_readStrips_5 rfl (fun h5 => ?_) (fun h5 => ?_)
    · replace h := inn h h5
      cases h
      exact K _
    · replace h := ip h h5
      refine wp_aload_n d_Mod_readStrips_8 rfl rfl ?_
      refine wl_getR d_Mod_readStrips_9 lf_Mod_62 sh_312 rfl ?_
      refine wp_bipush d_Mod_readStrips_12 (v := nI 12) rfl ?_
      refine wp_iload_n d_Mod_readStrips_14 rfl rfl ?_
      refine wp_iadd d_Mod_readStrips_15 ?_
      refine wp_iconst d_Mod_readStrips_16 (v := nI 0) rfl ?_
      obtain ⟨M2, e1, h⟩ := ob1_some h
      refine wa_ast d_Mod_readStrips_17 sh_329 e1 ?_
      refine wp_iinc d_Mod_readStrips_18 (v := k_ + nI 1) rfl rfl ?_
      refine wp_goto 2 d_Mod_readStrips_21 rfl ?_
      exact ih _ _ h
theorem l_Mod_readStrips_2 {kt : Int32 → mM → Option (Int32 × mM)}  {r : Int32} {M' : mM} (hq : Q (some (.int r)) (lay M')) (K : ∀ (n_r : Int32) (N1 : mM), kt n_r N1 = some (r, M') → wp X (d + 6) f_Mod_readStrips (0, 0) 64 [.ref 312, .int n_r] [] (lay N1) Q) : ∀ (n : Nat) (n_ : Int32) (M : mM), L_Mod_readStrips_2 z kt n n_ M = some (r, M') → wp X (d + 6) f_Mod_readStrips (0, 0) 26 [.ref 312, .int n_] [] (lay M) Q := by
  intro n
  induction n with
  | zero => intro n_ M h; exact nn h
  | succ n ih =>
    intro n_ M h
    refine wp_aload_n d_Mod_readStrips_26 rfl rfl ?_
    refine wp_bipush d_Mod_readStrips_27 (v := nI 28) rfl ?_
    refine wl_callV1 d_Mod_readStrips_29 lc_Mod_isWord lv_Mod_224 rfl sh_312 rfl rfl ⟨rfl, rfl⟩ ⟨by decide, by decide⟩ ?_
    refine s_Mod_isWord (d := d + 5) rfl ?_
    refine wc_eq 64 d_Mod_readStrips_32 rfl (fun h32 => ?_) (fun h32 => ?_)
    · replace h := inn h h32
      exact K _ _ h
    · replace h := ip h h32
      refine wp_iload_n d_Mod_readStrips_35 rfl rfl ?_
      refine wp_bipush d_Mod_readStrips_36 (v := nI 16) rfl ?_
      refine wq_icmp_ne 47 d_Mod_readStrips_38 rfl (fun h38 => ?_) (fun h38 => ?_)
      · replace h := inn h h38
        obtain ⟨x4, M6, e5, h⟩ := ob2_some h
        have k10 : x4 = true → wp X (d + 6) f_Mod_readStrips (0, 0) 55 [.ref 312, .int n_] [] (lay M6) Q := by
          intro x11
          replace h := ip h x11
          refine wp_iconst d_Mod_readStrips_55 (v := (-1)) rfl ?_
          cases h
          exact wp_iret d_Mod_readStrips_56 rfl rfl rfl hq
        have k12 : ¬ x4 = true → wp X (d + 6) f_Mod_readStrips (0, 0) 57 [.ref 312, .int n_] [] (lay M6) Q := by
          intro x13
          replace h := inn h x13
          refine wp_iload_n d_Mod_readStrips_57 rfl rfl ?_
          refine wp_iconst d_Mod_readStrips_58 (v := nI 1) rfl ?_
          refine wp_iadd d_Mod_readStrips_59 ?_
          refine wp_istore_n d_Mod_readStrips_60 rfl (by decide) ?_
          refine wp_goto 26 d_Mod_readStrips_61 rfl ?_
          exact ih _ _ h
        refine wp_aload_n d_Mod_readStrips_47 rfl rfl ?_
        obtain ⟨v14, M15, e16, e5⟩ := ob2_some e5
        refine wl_callV0 d_Mod_readStrips_48 lc_Mod_readStrip lv_Mod_264 rfl sh_312 rfl rfl ⟨rfl, rfl⟩ ⟨by decide, by decide⟩ ?_
        refine s_Mod_readStrip (d := d) e16 ?_
        refine wp_iconst d_Mod_readStrips_51 (v := (-1)) rfl ?_
        refine wq_icmp_ne 57 d_Mod_readStrips_52 rfl (fun h52 => ?_) (fun h52 => ?_)
        · cases e5
          exact k12 (fun z => h52 (of_decide_eq_true z))
        · cases e5
          exact k10 (decide_eq_true h52)
      · replace h := ip h h38
        refine wp_aload_n d_Mod_readStrips_41 rfl rfl ?_
        refine wp_iconst d_Mod_readStrips_42 (v := nI 3) rfl ?_
        obtain ⟨v17, M18, e19, h⟩ := ob2_some h
        refine wl_callV1 d_Mod_readStrips_43 lc_Mod_errs lv_Mod_196 rfl sh_312 rfl rfl ⟨rfl, rfl⟩ ⟨by decide, by decide⟩ ?_
        refine s_Mod_errs (d := d + 5) e19 ?_
        cases h
        exact wp_iret d_Mod_readStrips_46 rfl rfl rfl hq
theorem s_Mod_readStrips {M : mM} {r : Int32} {M' : mM} (h : F_Mod_readStrips z M = some (r, M')) (hq : Q (some (.int r)) (lay M')) : Sp X (d + 6) f_Mod_readStrips [.ref 312] (lay M) Q := by
  refine Sp_of (by decide) rfl (Nat.le_of_ble_eq_true rfl) ?_
  refine wp_iconst d_Mod_readStrips_0 (v := nI 0) rfl ?_
  refine wp_istore_n d_Mod_readStrips_1 rfl (by decide) ?_
  obtain ⟨M3, e32, h⟩ := ob1_some h
  refine l_Mod_readStrips_1 ?_ _ _ _ e32
  intro u1
  refine wp_iconst d_Mod_readStrips_24 (v := nI 0) rfl ?_
  refine wp_istore_n d_Mod_readStrips_25 rfl (by decide) ?_
  refine l_Mod_readStrips_2 hq ?_ _ _ _ h
  intro n_20 M21 h
  obtain ⟨v26, M28, e27, h⟩ := ob2_some h
  have k25 : wp X (d + 6) f_Mod_readStrips (0, 0) 80 [.ref 312, .int n_20] [.int v26] (lay M28) Q := by
    cases h
    exact wp_iret d_Mod_readStrips_80 rfl rfl rfl hq
  refine wp_aload_n d_Mod_readStrips_64 rfl rfl ?_
  refine wl_getI d_Mod_readStrips_65 lf_Mod_165 sh_312 rfl rfl ?_
  refine wz_ne 75 d_Mod_readStrips_68 rfl (fun h68 => ?_) (fun h68 => ?_)
  · replace e27 := inn e27 h68
    refine wp_aload_n d_Mod_readStrips_75 rfl rfl ?_
    refine wp_iconst d_Mod_readStrips_76 (v := nI 1) rfl ?_
    obtain ⟨v29, M30, e31, e27⟩ := ob2_some e27
    refine wl_callV1 d_Mod_readStrips_77 lc_Mod_errs lv_Mod_196 rfl sh_312 rfl rfl ⟨rfl, rfl⟩ ⟨by decide, by decide⟩ ?_
    refine s_Mod_errs (d := d + 5) e31 ?_
    cases e27
    exact k25
  · replace e27 := ip e27 h68
    refine wp_iload_n d_Mod_readStrips_71 rfl rfl ?_
    cases e27
    refine wp_goto 80 d_Mod_readStrips_72 rfl ?_
    exact k25
def F_Mod_readsText (z : Nat) (kind_ : Int32) (M : mM) : Option (Int32 × mM) :=
  ob1 (F_Mod_reads z M) fun M1 =>
  if kind_ = (nI 1) then
  ob2 (F_Mod_readFlight z M1) fun v22 M23 =>
  some (v22, M23)
  else
  if kind_ = (nI 2) then
  ob2 (F_Mod_readSky z M1) fun v19 M20 =>
  some (v19, M20)
  else
  ob2 (if kind_ = (nI 3) then
  ob2 (F_Mod_readStrips z M1) fun v16 M17 =>
  some (v16, M17)
  else
  ob2 (F_Mod_readLaw z M1) fun v13 M14 =>
  some (v13, M14)) fun v10 M12 =>
  some (v10, M12)
theorem s_Mod_readsText {kind_ : Int32} {M : mM} {r : Int32} {M' : mM} (h : F_Mod_readsText z kind_ M = some (r, M')) (hq : Q (some (.int r)) (lay M')) : Sp X (d + 9) f_Mod_readsText [.ref 312, .int kind_] (lay M) Q := by
  refine Sp_of (by decide) rfl (Nat.le_of_ble_eq_true rfl) ?_
  refine wp_aload_n d_Mod_readsText_0 rfl rfl ?_
  refine wp_iconst d_Mod_readsText_1 (v := nI 0) rfl ?_
  refine wl_putC d_Mod_readsText_2 lp_Mod_243 sh_312 rfl ⟨rfl, rfl⟩ ?_
  refine wp_aload_n d_Mod_readsText_5 rfl rfl ?_
  obtain ⟨M1, e2, h⟩ := ob1_some h
  refine wl_callV0 d_Mod_readsText_6 lc_Mod_reads lv_Mod_202 rfl sh_312 rfl rfl ⟨rfl, rfl⟩ ⟨by decide, by decide⟩ ?_
  refine s_Mod_reads (d := d + 6) e2 ?_
  refine wp_iload_n d_Mod_readsText_9 rfl rfl ?_
  refine wp_iconst d_Mod_readsText_10 (v := nI 1) rfl ?_
  refine wq_icmp_ne 19 d_Mod_readsText_11 rfl (fun h11 => ?_) (fun h11 => ?_)
  · replace h := inn h h11
    refine wp_iload_n d_Mod_readsText_19 rfl rfl ?_
    refine wp_iconst d_Mod_readsText_20 (v := nI 2) rfl ?_
    refine wq_icmp_ne 29 d_Mod_readsText_21 rfl (fun h21 => ?_) (fun h21 => ?_)
    · replace h := inn h h21
      obtain ⟨v10, M12, e11, h⟩ := ob2_some h
      have k9 : wp X (d + 9) f_Mod_readsText (0, 0) 45 [.ref 312, .int kind_] [.int v10] (lay M12) Q := by
        cases h
        exact wp_iret d_Mod_readsText_45 rfl rfl rfl hq
      refine wp_iload_n d_Mod_readsText_29 rfl rfl ?_
      refine wp_iconst d_Mod_readsText_30 (v := nI 3) rfl ?_
      refine wq_icmp_ne 41 d_Mod_readsText_31 rfl (fun h31 => ?_) (fun h31 => ?_)
      · replace e11 := inn e11 h31
        refine wp_aload_n d_Mod_readsText_41 rfl rfl ?_
        obtain ⟨v13, M14, e15, e11⟩ := ob2_some e11
        refine wl_callV0 d_Mod_readsText_42 lc_Mod_readLaw lv_Mod_276 rfl sh_312 rfl rfl ⟨rfl, rfl⟩ ⟨by decide, by decide⟩ ?_
        refine s_Mod_readLaw (d := d) e15 ?_
        cases e11
        exact k9
      · replace e11 := ip e11 h31
        refine wp_aload_n d_Mod_readsText_34 rfl rfl ?_
        obtain ⟨v16, M17, e18, e11⟩ := ob2_some e11
        refine wl_callV0 d_Mod_readsText_35 lc_Mod_readStrips lv_Mod_273 rfl sh_312 rfl rfl ⟨rfl, rfl⟩ ⟨by decide, by decide⟩ ?_
        refine s_Mod_readStrips (d := d + 2) e18 ?_
        cases e11
        refine wp_goto 45 d_Mod_readsText_38 rfl ?_
        exact k9
    · replace h := ip h h21
      refine wp_aload_n d_Mod_readsText_24 rfl rfl ?_
      obtain ⟨v19, M20, e21, h⟩ := ob2_some h
      refine wl_callV0 d_Mod_readsText_25 lc_Mod_readSky lv_Mod_270 rfl sh_312 rfl rfl ⟨rfl, rfl⟩ ⟨by decide, by decide⟩ ?_
      refine s_Mod_readSky (d := d + 2) e21 ?_
      cases h
      exact wp_iret d_Mod_readsText_28 rfl rfl rfl hq
  · replace h := ip h h11
    refine wp_aload_n d_Mod_readsText_14 rfl rfl ?_
    obtain ⟨v22, M23, e24, h⟩ := ob2_some h
    refine wl_callV0 d_Mod_readsText_15 lc_Mod_readFlight lv_Mod_267 rfl sh_312 rfl rfl ⟨rfl, rfl⟩ ⟨by decide, by decide⟩ ?_
    refine s_Mod_readFlight (d := d + 2) e24 ?_
    cases h
    exact wp_iret d_Mod_readsText_18 rfl rfl rfl hq
end S1414
