/-! methods as functions: printed by program -/
section S146
variable {X : mXs} {d z : Nat} {Q : Option Value → mH → Prop}
def F_Rec_fault (what_ : Int32) (M : mM) : Int32 :=
  (if what_ = (nI 0) then M 100 2 else (if what_ = (nI 1) then M 100 3 else (-1)))
theorem s_Rec_fault {what_ : Int32} {M : mM} {r : Int32} (h : F_Rec_fault what_ M = r) (hq : Q (some (.int r)) (lay M)) : Sp X d f_Rec_fault [.ref 0, .int what_] (lay M) Q := by
  refine Sp_of (by decide) rfl (Nat.le_of_ble_eq_true rfl) ?_
  have k2 : wp X d f_Rec_fault (0, 0) 30 [.ref 0, .int what_] [.int (if what_ = (nI 0) then M 100 2 else (if what_ = (nI 1) then M 100 3 else (-1)))] (lay M) Q := by
    cases h
    exact wp_iret d_Rec_fault_30 rfl rfl rfl hq
  refine wp_iload_n d_Rec_fault_0 rfl rfl ?_
  refine wz_ne 14 d_Rec_fault_1 rfl (fun h1 => ?_) (fun h1 => ?_)
  · have k3 : wp X d f_Rec_fault (0, 0) 30 [.ref 0, .int what_] [.int (if what_ = (nI 1) then M 100 3 else (-1))] (lay M) Q := by
      exact wj_in h1 (k2)
    refine wp_iload_n d_Rec_fault_14 rfl rfl ?_
    refine wp_iconst d_Rec_fault_15 (v := nI 1) rfl ?_
    refine wq_icmp_ne 29 d_Rec_fault_16 rfl (fun h16 => ?_) (fun h16 => ?_)
    · refine wp_iconst d_Rec_fault_29 (v := (-1)) rfl ?_
      exact wj_in h16 (k3)
    · refine wp_aload_n d_Rec_fault_19 rfl rfl ?_
      refine wl_getR d_Rec_fault_20 lf_Rec_47 sh_0 rfl ?_
      refine wl_getI d_Rec_fault_23 lf_Rec_167 sh_100 rfl rfl ?_
      refine wp_goto 30 d_Rec_fault_26 rfl ?_
      exact wj_ip h16 (k3)
  · refine wp_aload_n d_Rec_fault_4 rfl rfl ?_
    refine wl_getR d_Rec_fault_5 lf_Rec_47 sh_0 rfl ?_
    refine wl_getI d_Rec_fault_8 lf_Rec_164 sh_100 rfl rfl ?_
    refine wp_goto 30 d_Rec_fault_11 rfl ?_
    exact wj_ip h1 (k2)
def F_Rec_inch (inch_ : Int32) (what_ : Int32) (M : mM) : Option (Int32) :=
  if ¬ ((F_Rec_within inch_ (nI 0) (nI 59)) = true) then
  some ((-2))
  else
  if what_ = nI 0 then
  ob1 (ra M 2 60 inch_) fun v2 =>
  some (v2)
  else
  if what_ = nI 1 then
  ob1 (ra M 3 60 inch_) fun v4 =>
  some (v4)
  else
  if what_ = nI 2 then
  ob1 (ra M 4 60 inch_) fun v6 =>
  some (v6)
  else
  some ((-2))
theorem s_Rec_inch {inch_ : Int32} {what_ : Int32} {M : mM} {r : Int32} (h : F_Rec_inch inch_ what_ M = some r) (hq : Q (some (.int r)) (lay M)) : Sp X (d + 1) f_Rec_inch [.ref 0, .int inch_, .int what_] (lay M) Q := by
  refine Sp_of (by decide) rfl (Nat.le_of_ble_eq_true rfl) ?_
  refine wp_iload_n d_Rec_inch_0 rfl rfl ?_
  refine wp_iconst d_Rec_inch_1 (v := nI 0) rfl ?_
  refine wp_bipush d_Rec_inch_2 (v := nI 59) rfl ?_
  refine wl_callS3 d_Rec_inch_4 lc_Rec_within ls_Rec_96 rfl ⟨rfl, rfl⟩ ⟨by decide, by decide⟩ ?_
  refine s_Rec_within (d := d) rfl ?_
  refine wc_ne 13 d_Rec_inch_7 rfl (fun h7 => ?_) (fun h7 => ?_)
  · replace h := inn h (fun z => z h7)
    refine wp_iload_n d_Rec_inch_13 rfl rfl ?_
    by_cases h14_0 : what_ = nI 0
    · replace h := ip h h14_0
      refine wt_in 40 (k := 0) (off := 26) (by decide) h14_0 d_Rec_inch_14 (by decide) (by decide) (by decide) (by decide) ?_
      refine wp_aload_n d_Rec_inch_40 rfl rfl ?_
      refine wl_getR d_Rec_inch_41 lf_Rec_12 sh_0 rfl ?_
      refine wl_getR d_Rec_inch_44 lf_Rec_100 (shW0 isW_1) rfl ?_
      refine wp_iload_n d_Rec_inch_47 rfl rfl ?_
      obtain ⟨v2, e1, h⟩ := ob1_some h
      refine wa_ald d_Rec_inch_48 (shW1 isW_1) e1 ?_
      cases h
      exact wp_iret d_Rec_inch_49 rfl rfl rfl hq
    · replace h := inn h h14_0
      by_cases h14_1 : what_ = nI 1
      · replace h := ip h h14_1
        refine wt_in 50 (k := 1) (off := 36) (by decide) h14_1 d_Rec_inch_14 (by decide) (by decide) (by decide) (by decide) ?_
        refine wp_aload_n d_Rec_inch_50 rfl rfl ?_
        refine wl_getR d_Rec_inch_51 lf_Rec_12 sh_0 rfl ?_
        refine wl_getR d_Rec_inch_54 lf_Rec_170 (shW0 isW_1) rfl ?_
        refine wp_iload_n d_Rec_inch_57 rfl rfl ?_
        obtain ⟨v4, e3, h⟩ := ob1_some h
        refine wa_ald d_Rec_inch_58 (shW2 isW_1) e3 ?_
        cases h
        exact wp_iret d_Rec_inch_59 rfl rfl rfl hq
      · replace h := inn h h14_1
        by_cases h14_2 : what_ = nI 2
        · replace h := ip h h14_2
          refine wt_in 60 (k := 2) (off := 46) (by decide) h14_2 d_Rec_inch_14 (by decide) (by decide) (by decide) (by decide) ?_
          refine wp_aload_n d_Rec_inch_60 rfl rfl ?_
          refine wl_getR d_Rec_inch_61 lf_Rec_12 sh_0 rfl ?_
          refine wl_getR d_Rec_inch_64 lf_Rec_173 (shW0 isW_1) rfl ?_
          refine wp_iload_n d_Rec_inch_67 rfl rfl ?_
          obtain ⟨v6, e5, h⟩ := ob1_some h
          refine wa_ald d_Rec_inch_68 (shW3 isW_1) e5 ?_
          cases h
          exact wp_iret d_Rec_inch_69 rfl rfl rfl hq
        · replace h := inn h h14_2
          refine wt_out 70 d_Rec_inch_14 (by decide) (fun y8 y71 y72 y7 => ?_) rfl ?_
          · have y73 : y8 = 0 ∨ y8 = 1 ∨ y8 = 2 := by omega
            rcases y73 with rfl | rfl | rfl
            · exact h14_0 y7
            · exact h14_1 y7
            · exact h14_2 y7
          · refine wp_bipush d_Rec_inch_70 (v := (-2)) rfl ?_
            cases h
            exact wp_iret d_Rec_inch_72 rfl rfl rfl hq
  · replace h := ip h h7
    refine wp_bipush d_Rec_inch_10 (v := (-2)) rfl ?_
    cases h
    exact wp_iret d_Rec_inch_12 rfl rfl rfl hq
def F_Rec_of (z : Nat) (thing_ : Int32) (what_ : Int32) (M : mM) : Option (Int32 × mM) :=
  ob1 (F_World_find z 1 thing_ M) fun c1 =>
  if c1 = none then
  some ((-1), M)
  else
  if what_ = nI 0 then
  ob1 (dT c1) fun c3 =>
  some (M c3 1, M)
  else
  if what_ = nI 1 then
  ob1 (dT c1) fun c5 =>
  some (M c5 2, M)
  else
  if what_ = nI 2 then
  ob1 (dT c1) fun c7 =>
  some (M c7 3, M)
  else
  if what_ = nI 3 then
  ob1 (dT c1) fun c9 =>
  some (M c9 4, M)
  else
  if what_ = nI 4 then
  ob1 (dT c1) fun c11 =>
  some (M c11 5, M)
  else
  if what_ = nI 5 then
  ob1 (dT c1) fun c13 =>
  some (M c13 6, M)
  else
  if what_ = nI 6 then
  ob1 (dT c1) fun c15 =>
  ob2 (F_Law_tells z 29 (nI 0) 1 c15 M) fun v17 M18 =>
  some (v17, M18)
  else
  if what_ = nI 7 then
  ob1 (dT c1) fun c20 =>
  ob2 (F_Law_tells z 29 (nI 1) 1 c20 M) fun v22 M23 =>
  some (v22, M23)
  else
  if what_ = nI 8 then
  ob1 (dT c1) fun c25 =>
  ob2 (F_Law_tells z 29 (nI 2) 1 c25 M) fun v27 M28 =>
  some (v27, M28)
  else
  if what_ = nI 9 then
  ob1 (dT c1) fun c30 =>
  ob1 (F_World_near 1 (M c30 4) M) fun v32 =>
  some (v32, M)
  else
  some ((-1), M)
theorem s_Rec_of {thing_ : Int32} {what_ : Int32} {M : mM} {r : Int32} {M' : mM} (h : F_Rec_of z thing_ what_ M = some (r, M')) (hq : Q (some (.int r)) (lay M')) : Sp X (d + 5) f_Rec_of [.ref 0, .int thing_, .int what_] (lay M) Q := by
  refine Sp_of (by decide) rfl (Nat.le_of_ble_eq_true rfl) ?_
  refine wp_aload_n d_Rec_of_0 rfl rfl ?_
  refine wl_getR d_Rec_of_1 lf_Rec_12 sh_0 rfl ?_
  refine wp_iload_n d_Rec_of_4 rfl rfl ?_
  obtain ⟨c1, e2, h⟩ := ob1_some h
  refine wl_callV1 d_Rec_of_5 lc_World_find lv_Rec_88 rfl (shW0 isW_1) rfl rfl ⟨rfl, rfl⟩ ⟨by decide, by decide⟩ ?_
  refine s_World_find (d := d + 3) isW_1 e2 ?_
  refine wr_astore_n d_Rec_of_8 rfl (by decide) ?_
  refine wr_aload_n d_Rec_of_9 rfl rfl ?_
  refine wr_ifnonnull 15 d_Rec_of_10 rfl (fun h10 => ?_) (fun h10 => ?_)
  · replace h := inn h h10
    refine wp_iload_n d_Rec_of_15 rfl rfl ?_
    by_cases h16_0 : what_ = nI 0
    · replace h := ip h h16_0
      refine wt_in 72 (k := 0) (off := 56) (by decide) h16_0 d_Rec_of_16 (by decide) (by decide) (by decide) (by decide) ?_
      refine wr_aload_n d_Rec_of_72 rfl rfl ?_
      obtain ⟨c3, e4, h⟩ := ob1_some h
      refine wr_deref e4 ?_
      have tc3 := dT_th e4
      refine wl_getI d_Rec_of_73 lf_Rec_176 (shTh tc3) rfl rfl ?_
      cases h
      exact wp_iret d_Rec_of_76 rfl rfl rfl hq
    · replace h := inn h h16_0
      by_cases h16_1 : what_ = nI 1
      · replace h := ip h h16_1
        refine wt_in 77 (k := 1) (off := 61) (by decide) h16_1 d_Rec_of_16 (by decide) (by decide) (by decide) (by decide) ?_
        refine wr_aload_n d_Rec_of_77 rfl rfl ?_
        obtain ⟨c5, e6, h⟩ := ob1_some h
        refine wr_deref e6 ?_
        have tc5 := dT_th e6
        refine wl_getI d_Rec_of_78 lf_Rec_110 (shTh tc5) rfl rfl ?_
        cases h
        exact wp_iret d_Rec_of_81 rfl rfl rfl hq
      · replace h := inn h h16_1
        by_cases h16_2 : what_ = nI 2
        · replace h := ip h h16_2
          refine wt_in 82 (k := 2) (off := 66) (by decide) h16_2 d_Rec_of_16 (by decide) (by decide) (by decide) (by decide) ?_
          refine wr_aload_n d_Rec_of_82 rfl rfl ?_
          obtain ⟨c7, e8, h⟩ := ob1_some h
          refine wr_deref e8 ?_
          have tc7 := dT_th e8
          refine wl_getI d_Rec_of_83 lf_Rec_115 (shTh tc7) rfl rfl ?_
          cases h
          exact wp_iret d_Rec_of_86 rfl rfl rfl hq
        · replace h := inn h h16_2
          by_cases h16_3 : what_ = nI 3
          · replace h := ip h h16_3
            refine wt_in 87 (k := 3) (off := 71) (by decide) h16_3 d_Rec_of_16 (by decide) (by decide) (by decide) (by decide) ?_
            refine wr_aload_n d_Rec_of_87 rfl rfl ?_
            obtain ⟨c9, e10, h⟩ := ob1_some h
            refine wr_deref e10 ?_
            have tc9 := dT_th e10
            refine wl_getI d_Rec_of_88 lf_Rec_179 (shTh tc9) rfl rfl ?_
            cases h
            exact wp_iret d_Rec_of_91 rfl rfl rfl hq
          · replace h := inn h h16_3
            by_cases h16_4 : what_ = nI 4
            · replace h := ip h h16_4
              refine wt_in 92 (k := 4) (off := 76) (by decide) h16_4 d_Rec_of_16 (by decide) (by decide) (by decide) (by decide) ?_
              refine wr_aload_n d_Rec_of_92 rfl rfl ?_
              obtain ⟨c11, e12, h⟩ := ob1_some h
              refine wr_deref e12 ?_
              have tc11 := dT_th e12
              refine wl_getI d_Rec_of_93 lf_Rec_182 (shTh tc11) rfl rfl ?_
              cases h
              exact wp_iret d_Rec_of_96 rfl rfl rfl hq
            · replace h := inn h h16_4
              by_cases h16_5 : what_ = nI 5
              · replace h := ip h h16_5
                refine wt_in 97 (k := 5) (off := 81) (by decide) h16_5 d_Rec_of_16 (by decide) (by decide) (by decide) (by decide) ?_
                refine wr_aload_n d_Rec_of_97 rfl rfl ?_
                obtain ⟨c13, e14, h⟩ := ob1_some h
                refine wr_deref e14 ?_
                have tc13 := dT_th e14
                refine wl_getI d_Rec_of_98 lf_Rec_118 (shTh tc13) rfl rfl ?_
                cases h
                exact wp_iret d_Rec_of_101 rfl rfl rfl hq
              · replace h := inn h h16_5
                by_cases h16_6 : what_ = nI 6
                · replace h := ip h h16_6
                  refine wt_in 102 (k := 6) (off := 86) (by decide) h16_6 d_Rec_of_16 (by decide) (by decide) (by decide) (by decide) ?_
                  refine wp_aload_n d_Rec_of_102 rfl rfl ?_
                  refine wl_getR d_Rec_of_103 lf_Rec_19 sh_0 rfl ?_
                  refine wl_getR d_Rec_of_106 lf_Rec_185 (shT0 isTd_28) rfl ?_
                  refine wp_iconst d_Rec_of_109 (v := nI 0) rfl ?_
                  refine wp_aload_n d_Rec_of_110 rfl rfl ?_
                  refine wl_getR d_Rec_of_111 lf_Rec_12 sh_0 rfl ?_
                  refine wr_aload_n d_Rec_of_114 rfl rfl ?_
                  obtain ⟨c15, e16, h⟩ := ob1_some h
                  refine wr_deref e16 ?_
                  have tc15 := dT_th e16
                  obtain ⟨v17, M18, e19, h⟩ := ob2_some h
                  refine wl_callV3 d_Rec_of_115 lc_Law_tells lv_Rec_189 rfl (shL0 (isL_of isTd_28)) rfl rfl ⟨rfl, rfl⟩ ⟨by decide, by decide⟩ ?_
                  refine s_Law_tells (d := d) (isL_of isTd_28) isW_1 tc15 e19 ?_
                  cases h
                  exact wp_iret d_Rec_of_118 rfl rfl rfl hq
                · replace h := inn h h16_6
                  by_cases h16_7 : what_ = nI 7
                  · replace h := ip h h16_7
                    refine wt_in 119 (k := 7) (off := 103) (by decide) h16_7 d_Rec_of_16 (by decide) (by decide) (by decide) (by decide) ?_
                    refine wp_aload_n d_Rec_of_119 rfl rfl ?_
                    refine wl_getR d_Rec_of_120 lf_Rec_19 sh_0 rfl ?_
                    refine wl_getR d_Rec_of_123 lf_Rec_185 (shT0 isTd_28) rfl ?_
                    refine wp_iconst d_Rec_of_126 (v := nI 1) rfl ?_
                    refine wp_aload_n d_Rec_of_127 rfl rfl ?_
                    refine wl_getR d_Rec_of_128 lf_Rec_12 sh_0 rfl ?_
                    refine wr_aload_n d_Rec_of_131 rfl rfl ?_
                    obtain ⟨c20, e21, h⟩ := ob1_some h
                    refine wr_deref e21 ?_
                    have tc20 := dT_th e21
                    obtain ⟨v22, M23, e24, h⟩ := ob2_some h
                    refine wl_callV3 d_Rec_of_132 lc_Law_tells lv_Rec_189 rfl (shL0 (isL_of isTd_28)) rfl rfl ⟨rfl, rfl⟩ ⟨by decide, by decide⟩ ?_
                    refine s_Law_tells (d := d) (isL_of isTd_28) isW_1 tc20 e24 ?_
                    cases h
                    exact wp_iret d_Rec_of_135 rfl rfl rfl hq
                  · replace h := inn h h16_7
                    by_cases h16_8 : what_ = nI 8
                    · replace h := ip h h16_8
                      refine wt_in 136 (k := 8) (off := 120) (by decide) h16_8 d_Rec_of_16 (by decide) (by decide) (by decide) (by decide) ?_
                      refine wp_aload_n d_Rec_of_136 rfl rfl ?_
                      refine wl_getR d_Rec_of_137 lf_Rec_19 sh_0 rfl ?_
                      refine wl_getR d_Rec_of_140 lf_Rec_185 (shT0 isTd_28) rfl ?_
                      refine wp_iconst d_Rec_of_143 (v := nI 2) rfl ?_
                      refine wp_aload_n d_Rec_of_144 rfl rfl ?_
                      refine wl_getR d_Rec_of_145 lf_Rec_12 sh_0 rfl ?_
                      refine wr_aload_n d_Rec_of_148 rfl rfl ?_
                      obtain ⟨c25, e26, h⟩ := ob1_some h
                      refine wr_deref e26 ?_
                      have tc25 := dT_th e26
                      obtain ⟨v27, M28, e29, h⟩ := ob2_some h
                      refine wl_callV3 d_Rec_of_149 lc_Law_tells lv_Rec_189 rfl (shL0 (isL_of isTd_28)) rfl rfl ⟨rfl, rfl⟩ ⟨by decide, by decide⟩ ?_
                      refine s_Law_tells (d := d) (isL_of isTd_28) isW_1 tc25 e29 ?_
                      cases h
                      exact wp_iret d_Rec_of_152 rfl rfl rfl hq
                    · replace h := inn h h16_8
                      by_cases h16_9 : what_ = nI 9
                      · replace h := ip h h16_9
                        refine wt_in 153 (k := 9) (off := 137) (by decide) h16_9 d_Rec_of_16 (by decide) (by decide) (by decide) (by decide) ?_
                        refine wp_aload_n d_Rec_of_153 rfl rfl ?_
                        refine wl_getR d_Rec_of_154 lf_Rec_12 sh_0 rfl ?_
                        refine wr_aload_n d_Rec_of_157 rfl rfl ?_
                        obtain ⟨c30, e31, h⟩ := ob1_some h
                        refine wr_deref e31 ?_
                        have tc30 := dT_th e31
                        refine wl_getI d_Rec_of_158 lf_Rec_179 (shTh tc30) rfl rfl ?_
                        obtain ⟨v32, e33, h⟩ := ob1_some h
                        refine wl_callV1 d_Rec_of_161 lc_World_near lv_Rec_195 rfl (shW0 isW_1) rfl rfl ⟨rfl, rfl⟩ ⟨by decide, by decide⟩ ?_
                        refine s_World_near (d := d + 3) isW_1 e33 ?_
                        cases h
                        exact wp_iret d_Rec_of_164 rfl rfl rfl hq
                      · replace h := inn h h16_9
                        refine wt_out 165 d_Rec_of_16 (by decide) (fun y35 y341 y342 y34 => ?_) rfl ?_
                        · have y343 : y35 = 0 ∨ y35 = 1 ∨ y35 = 2 ∨ y35 = 3 ∨ y35 = 4 ∨ y35 = 5 ∨ y35 = 6 ∨ y35 = 7 ∨ y35 = 8 ∨ y35 = 9 := by omega
                          rcases y343 with rfl | rfl | rfl | rfl | rfl | rfl | rfl | rfl | rfl | rfl
                          · exact h16_0 y34
                          · exact h16_1 y34
                          · exact h16_2 y34
                          · exact h16_3 y34
                          · exact h16_4 y34
                          · exact h16_5 y34
                          · exact h16_6 y34
                          · exact h16_7 y34
                          · exact h16_8 y34
                          · exact h16_9 y34
                        · refine wp_iconst d_Rec_of_165 (v := (-1)) rfl ?_
                          cases h
                          exact wp_iret d_Rec_of_166 rfl rfl rfl hq
  · replace h := ip h h10
    refine wp_iconst d_Rec_of_13 (v := (-1)) rfl ?_
    cases h
    exact wp_iret d_Rec_of_14 rfl rfl rfl hq
def F_Rec_book (i_ : Int32) (what_ : Int32) (M : mM) : Option (Int32) :=
  if (¬ ((F_Rec_within i_ (nI 0) ((M 6 3) - (nI 1))) = true) ∨ ¬ ((F_Rec_within what_ (nI 0) (nI 3)) = true)) then
  some ((-2))
  else
  ob1 (F_Rows_get 6 4 150 i_ what_ M) fun v3 =>
  some (v3)
theorem s_Rec_book {i_ : Int32} {what_ : Int32} {M : mM} {r : Int32} (h : F_Rec_book i_ what_ M = some r) (hq : Q (some (.int r)) (lay M)) : Sp X (d + 1) f_Rec_book [.ref 0, .int i_, .int what_] (lay M) Q := by
  refine Sp_of (by decide) rfl (Nat.le_of_ble_eq_true rfl) ?_
  have k1 : (¬ ((F_Rec_within i_ (nI 0) ((M 6 3) - (nI 1))) = true) ∨ ¬ ((F_Rec_within what_ (nI 0) (nI 3)) = true)) → wp X (d + 1) f_Rec_book (0, 0) 29 [.ref 0, .int i_, .int what_] [] (lay M) Q := by
    intro x2
    replace h := ip h x2
    refine wp_bipush d_Rec_book_29 (v := (-2)) rfl ?_
    cases h
    exact wp_iret d_Rec_book_31 rfl rfl rfl hq
  refine wp_iload_n d_Rec_book_0 rfl rfl ?_
  refine wp_iconst d_Rec_book_1 (v := nI 0) rfl ?_
  refine wp_aload_n d_Rec_book_2 rfl rfl ?_
  refine wl_getR d_Rec_book_3 lf_Rec_12 sh_0 rfl ?_
  refine wl_getR d_Rec_book_6 lf_Rec_198 (shW0 isW_1) rfl ?_
  refine wl_getI d_Rec_book_9 lf_Rec_202 (isR0 (isR_book isW_1)) rfl rfl ?_
  refine wp_iconst d_Rec_book_12 (v := nI 1) rfl ?_
  refine wp_isub d_Rec_book_13 ?_
  refine wl_callS3 d_Rec_book_14 lc_Rec_within ls_Rec_96 rfl ⟨rfl, rfl⟩ ⟨by decide, by decide⟩ ?_
  refine s_Rec_within (d := d) rfl ?_
  refine wc_eq 29 d_Rec_book_17 rfl (fun h17 => ?_) (fun h17 => ?_)
  · exact k1 (Or.inl h17)
  · refine wp_iload_n d_Rec_book_20 rfl rfl ?_
    refine wp_iconst d_Rec_book_21 (v := nI 0) rfl ?_
    refine wp_iconst d_Rec_book_22 (v := nI 3) rfl ?_
    refine wl_callS3 d_Rec_book_23 lc_Rec_within ls_Rec_96 rfl ⟨rfl, rfl⟩ ⟨by decide, by decide⟩ ?_
    refine s_Rec_within (d := d) rfl ?_
    refine wc_ne 32 d_Rec_book_26 rfl (fun h26 => ?_) (fun h26 => ?_)
    · replace h := inn h (fun z => z.elim (fun z => z h17) (fun z => z h26))
      refine wp_aload_n d_Rec_book_32 rfl rfl ?_
      refine wl_getR d_Rec_book_33 lf_Rec_12 sh_0 rfl ?_
      refine wl_getR d_Rec_book_36 lf_Rec_198 (shW0 isW_1) rfl ?_
      refine wp_iload_n d_Rec_book_39 rfl rfl ?_
      refine wp_iload_n d_Rec_book_40 rfl rfl ?_
      obtain ⟨v3, e4, h⟩ := ob1_some h
      refine wl_callV2 d_Rec_book_41 lc_Rows_get lv_Rec_205 rfl (isR0 (isR_book isW_1)) rfl rfl ⟨rfl, rfl⟩ ⟨by decide, by decide⟩ ?_
      refine s_Rows_get (d := d) (isR_book isW_1) e4 ?_
      cases h
      exact wp_iret d_Rec_book_44 rfl rfl rfl hq
    · exact k1 (Or.inr h26)
def L_Rec_sum_1 (z : Nat) (c_row : Nat) (n_row : Nat) (vXn_ : Int32) (M : mM) : Nat → Int32 → Int32 → Option (Int32)
  | 0, _, _ => none
  | n + 1, all_, vXi_ =>
    if vXi_ < vXn_ then
    ob1 (ra M c_row n_row vXi_) fun v2 =>
    L_Rec_sum_1 z c_row n_row vXn_ M n (all_ + v2) (vXi_ + nI 1)
    else
    some (all_)
def F_Rec_sum (z : Nat) (c_row : Nat) (n_row : Nat) (M : mM) : Option (Int32) :=
  ob1 (L_Rec_sum_1 z c_row n_row (nI n_row) M z (nI 0) (nI 0)) fun all_3 =>
  some (all_3)
theorem l_Rec_sum_1 {c_row : Nat} {n_row : Nat} {vXn_ : Int32} {M : mM}  {all_r : Int32} (hs_row : SH[c_row]? = some (0, n_row, [])) (K : ∀ u4 u5 : Value, wp X d f_Rec_sum (0, 0) 33 [.ref c_row, .int all_r, .ref c_row, .int vXn_, u4, u5] [] (lay M) Q) : ∀ (n : Nat) (all_ : Int32) (vXi_ : Int32) (u5 : Value), L_Rec_sum_1 z c_row n_row vXn_ M n all_ vXi_ = some (all_r) → wp X d f_Rec_sum (0, 0) 10 [.ref c_row, .int all_, .ref c_row, .int vXn_, .int vXi_, u5] [] (lay M) Q := by
  intro n
  induction n with
  | zero => intro all_ vXi_ u5 h; exact nn h
  | succ n ih =>
    intro all_ vXi_ u5 h
    refine wp_iload d_Rec_sum_10 rfl ?_
    refine wp_iload_n d_Rec_sum_12 rfl rfl ?_
    refine wq_icmp_ge 33 d_Rec_sum_13 rfl (fun h13 => ?_) (fun h13 => ?_)
    · replace h := inn h h13
      cases h
      exact K _ _
    · replace h := ip h h13
      refine wp_aload_n d_Rec_sum_16 rfl rfl ?_
      refine wp_iload d_Rec_sum_17 rfl ?_
      obtain ⟨v2, e1, h⟩ := ob1_some h
      refine wa_ald d_Rec_sum_19 hs_row e1 ?_
      refine wp_istore d_Rec_sum_20 (by decide) ?_
      refine wp_iload_n d_Rec_sum_22 rfl rfl ?_
      refine wp_iload d_Rec_sum_23 rfl ?_
      refine wp_iadd d_Rec_sum_25 ?_
      refine wp_istore_n d_Rec_sum_26 rfl (by decide) ?_
      refine wp_iinc d_Rec_sum_27 (v := vXi_ + nI 1) rfl rfl ?_
      refine wp_goto 10 d_Rec_sum_30 rfl ?_
      exact ih _ _ _ h
theorem s_Rec_sum {c_row : Nat} {n_row : Nat} {M : mM} {r : Int32} (hs_row : SH[c_row]? = some (0, n_row, [])) (h : F_Rec_sum z c_row n_row M = some r) (hq : Q (some (.int r)) (lay M)) : Sp X d f_Rec_sum [.ref c_row] (lay M) Q := by
  refine Sp_of (by decide) rfl (Nat.le_of_ble_eq_true rfl) ?_
  refine wp_iconst d_Rec_sum_0 (v := nI 0) rfl ?_
  refine wp_istore_n d_Rec_sum_1 rfl (by decide) ?_
  refine wp_aload_n d_Rec_sum_2 rfl rfl ?_
  refine wp_astore_n d_Rec_sum_3 rfl (by decide) ?_
  refine wp_aload_n d_Rec_sum_4 rfl rfl ?_
  refine wl_alen (by decide) d_Rec_sum_5 hs_row ?_
  refine wp_istore_n d_Rec_sum_6 rfl (by decide) ?_
  refine wp_iconst d_Rec_sum_7 (v := nI 0) rfl ?_
  refine wp_istore d_Rec_sum_8 (by decide) ?_
  obtain ⟨all_3, e4, h⟩ := ob1_some h
  refine l_Rec_sum_1 hs_row ?_ _ _ _ _ e4
  intro u4 u5
  refine wp_iload_n d_Rec_sum_33 rfl rfl ?_
  cases h
  exact wp_iret d_Rec_sum_34 rfl rfl rfl hq
def L_Rec_goes_1 (z : Nat) (n_ : Int32) : Nat → Int32 → mM → Option (mM)
  | 0, _, _ => none
  | n + 1, i_, M =>
    if i_ < n_ then
    ob1 (F_World_liveDay z 109 28 true M) fun M5 =>
    L_Rec_goes_1 z n_ n (i_ + nI 1) M5
    else
    some (M)
def F_Rec_goes (z : Nat) (n_ : Int32) (what_ : Int32) (M : mM) : Option (Int32 × mM) :=
  if (¬ ((F_Rec_within n_ (nI 1) (nI 60)) = true) ∨ ¬ ((F_Rec_within what_ (nI 0) (nI 3)) = true)) then
  some ((-1), M)
  else
  ob1 (F_World_copyFrom z 109 1 M) fun M3 =>
  ob1 (L_Rec_goes_1 z n_ z (nI 0) M3) fun M7 =>
  if what_ = nI 0 then
  some (M7 109 5, M7)
  else
  if what_ = nI 1 then
  some (M7 109 10, M7)
  else
  if what_ = nI 2 then
  ob1 (F_Rec_sum z 111 60 M7) fun v8 =>
  some (v8, M7)
  else
  ob1 (F_Rec_sum z 110 60 M7) fun v10 =>
  some (v10, M7)
theorem l_Rec_goes_1 {n_ : Int32}  {q2 : Value} {N' : mM} (K : ∀ u3 : Value, wp X (d + 7) f_Rec_goes (0, 0) 57 [.ref 0, .int n_, q2, u3] [] (lay N') Q) : ∀ (n : Nat) (i_ : Int32) (M : mM), L_Rec_goes_1 z n_ n i_ M = some (N') → wp X (d + 7) f_Rec_goes (0, 0) 34 [.ref 0, .int n_, q2, .int i_] [] (lay M) Q := by
  intro n
  induction n with
  | zero => intro i_ M h; exact nn h
  | succ n ih =>
    intro i_ M h
    refine wp_iload_n d_Rec_goes_34 rfl rfl ?_
    refine wp_iload_n d_Rec_goes_35 rfl rfl ?_
    refine wq_icmp_ge 57 d_Rec_goes_36 rfl (fun h36 => ?_) (fun h36 => ?_)
    · replace h := inn h h36
      cases h
      exact K _
    · replace h := ip h h36
      refine wp_aload_n d_Rec_goes_39 rfl rfl ?_
      refine wl_getR d_Rec_goes_40 lf_Rec_51 sh_0 rfl ?_
      refine wp_aload_n d_Rec_goes_43 rfl rfl ?_
      refine wl_getR d_Rec_goes_44 lf_Rec_19 sh_0 rfl ?_
      refine wp_iconst d_Rec_goes_47 (v := bI true) rfl ?_
      obtain ⟨M5, e6, h⟩ := ob1_some h
      refine wl_callV2 d_Rec_goes_48 lc_World_liveDay lv_Rec_146 rfl (shW0 isW_109) rfl rfl ⟨rfl, rfl⟩ ⟨by decide, by decide⟩ ?_
      refine s_World_liveDay (d := d) isW_109 isTd_28 e6 ?_
      refine wp_iinc d_Rec_goes_51 (v := i_ + nI 1) rfl rfl ?_
      refine wp_goto 34 d_Rec_goes_54 rfl ?_
      exact ih _ _ h
theorem s_Rec_goes {n_ : Int32} {what_ : Int32} {M : mM} {r : Int32} {M' : mM} (h : F_Rec_goes z n_ what_ M = some (r, M')) (hq : Q (some (.int r)) (lay M')) : Sp X (d + 7) f_Rec_goes [.ref 0, .int n_, .int what_] (lay M) Q := by
  refine Sp_of (by decide) rfl (Nat.le_of_ble_eq_true rfl) ?_
  have k1 : ∀ u3 : Value, (¬ ((F_Rec_within n_ (nI 1) (nI 60)) = true) ∨ ¬ ((F_Rec_within what_ (nI 0) (nI 3)) = true)) → wp X (d + 7) f_Rec_goes (0, 0) 19 [.ref 0, .int n_, .int what_, u3] [] (lay M) Q := by
    intro u3 x2
    replace h := ip h x2
    refine wp_iconst d_Rec_goes_19 (v := (-1)) rfl ?_
    cases h
    exact wp_iret d_Rec_goes_20 rfl rfl rfl hq
  refine wp_iload_n d_Rec_goes_0 rfl rfl ?_
  refine wp_iconst d_Rec_goes_1 (v := nI 1) rfl ?_
  refine wp_bipush d_Rec_goes_2 (v := nI 60) rfl ?_
  refine wl_callS3 d_Rec_goes_4 lc_Rec_within ls_Rec_96 rfl ⟨rfl, rfl⟩ ⟨by decide, by decide⟩ ?_
  refine s_Rec_within (d := d + 6) rfl ?_
  refine wc_eq 19 d_Rec_goes_7 rfl (fun h7 => ?_) (fun h7 => ?_)
  · exact k1 _ (Or.inl h7)
  · refine wp_iload_n d_Rec_goes_10 rfl rfl ?_
    refine wp_iconst d_Rec_goes_11 (v := nI 0) rfl ?_
    refine wp_iconst d_Rec_goes_12 (v := nI 3) rfl ?_
    refine wl_callS3 d_Rec_goes_13 lc_Rec_within ls_Rec_96 rfl ⟨rfl, rfl⟩ ⟨by decide, by decide⟩ ?_
    refine s_Rec_within (d := d + 6) rfl ?_
    refine wc_ne 21 d_Rec_goes_16 rfl (fun h16 => ?_) (fun h16 => ?_)
    · replace h := inn h (fun z => z.elim (fun z => z h7) (fun z => z h16))
      refine wp_aload_n d_Rec_goes_21 rfl rfl ?_
      refine wl_getR d_Rec_goes_22 lf_Rec_51 sh_0 rfl ?_
      refine wp_aload_n d_Rec_goes_25 rfl rfl ?_
      refine wl_getR d_Rec_goes_26 lf_Rec_12 sh_0 rfl ?_
      obtain ⟨M3, e4, h⟩ := ob1_some h
      refine wl_callV1 d_Rec_goes_29 lc_World_copyFrom lv_Rec_209 rfl (shW0 isW_109) rfl rfl ⟨rfl, rfl⟩ ⟨by decide, by decide⟩ ?_
      refine s_World_copyFrom (d := d + 4) isW_109 isW_1 e4 ?_
      refine wp_iconst d_Rec_goes_32 (v := nI 0) rfl ?_
      refine wp_istore_n d_Rec_goes_33 rfl (by decide) ?_
      obtain ⟨M7, e14, h⟩ := ob1_some h
      refine l_Rec_goes_1 ?_ _ _ _ e14
      intro u3
      refine wp_iload_n d_Rec_goes_57 rfl rfl ?_
      by_cases h58_0 : what_ = nI 0
      · replace h := ip h h58_0
        refine wt_in 84 (k := 0) (off := 26) (by decide) h58_0 d_Rec_goes_58 (by decide) (by decide) (by decide) (by decide) ?_
        refine wp_aload_n d_Rec_goes_84 rfl rfl ?_
        refine wl_getR d_Rec_goes_85 lf_Rec_51 sh_0 rfl ?_
        refine wl_getI d_Rec_goes_88 lf_Rec_213 (shW0 isW_109) rfl rfl ?_
        cases h
        exact wp_iret d_Rec_goes_91 rfl rfl rfl hq
      · replace h := inn h h58_0
        by_cases h58_1 : what_ = nI 1
        · replace h := ip h h58_1
          refine wt_in 92 (k := 1) (off := 34) (by decide) h58_1 d_Rec_goes_58 (by decide) (by decide) (by decide) (by decide) ?_
          refine wp_aload_n d_Rec_goes_92 rfl rfl ?_
          refine wl_getR d_Rec_goes_93 lf_Rec_51 sh_0 rfl ?_
          refine wl_getI d_Rec_goes_96 lf_Rec_143 (shW0 isW_109) rfl rfl ?_
          cases h
          exact wp_iret d_Rec_goes_99 rfl rfl rfl hq
        · replace h := inn h h58_1
          by_cases h58_2 : what_ = nI 2
          · replace h := ip h h58_2
            refine wt_in 100 (k := 2) (off := 42) (by decide) h58_2 d_Rec_goes_58 (by decide) (by decide) (by decide) (by decide) ?_
            refine wp_aload_n d_Rec_goes_100 rfl rfl ?_
            refine wl_getR d_Rec_goes_101 lf_Rec_51 sh_0 rfl ?_
            refine wl_getR d_Rec_goes_104 lf_Rec_170 (shW0 isW_109) rfl ?_
            obtain ⟨v8, e9, h⟩ := ob1_some h
            refine wl_callS1 d_Rec_goes_107 lc_Rec_sum ls_Rec_216 rfl ⟨rfl, rfl⟩ ⟨by decide, by decide⟩ ?_
            refine s_Rec_sum (d := d + 6) (shW2 isW_109) e9 ?_
            cases h
            exact wp_iret d_Rec_goes_110 rfl rfl rfl hq
          · replace h := inn h h58_2
            refine wt_out 111 d_Rec_goes_58 (by decide) (fun y13 y121 y122 y12 => ?_) rfl ?_
            · have y123 : y13 = 0 ∨ y13 = 1 ∨ y13 = 2 := by omega
              rcases y123 with rfl | rfl | rfl
              · exact h58_0 y12
              · exact h58_1 y12
              · exact h58_2 y12
            · refine wp_aload_n d_Rec_goes_111 rfl rfl ?_
              refine wl_getR d_Rec_goes_112 lf_Rec_51 sh_0 rfl ?_
              refine wl_getR d_Rec_goes_115 lf_Rec_100 (shW0 isW_109) rfl ?_
              obtain ⟨v10, e11, h⟩ := ob1_some h
              refine wl_callS1 d_Rec_goes_118 lc_Rec_sum ls_Rec_216 rfl ⟨rfl, rfl⟩ ⟨by decide, by decide⟩ ?_
              refine s_Rec_sum (d := d + 6) (shW1 isW_109) e11 ?_
              cases h
              exact wp_iret d_Rec_goes_121 rfl rfl rfl hq
    · exact k1 _ (Or.inr h16)
def F_World_thingAt (z : Nat) (w : Nat) (inch_ : Int32) (M : mM) : Option (Option Nat) :=
  ob1 (ob1 (ob1 (F_World_isTaken w inch_ M) fun v30 =>
  some (v30)) fun x18 =>
  if x18 = true then
  ob1 (ra M (w + 3) 60 inch_) fun v25 =>
  ob1 (F_World_find z w v25 M) fun c26 =>
  some (c26)
  else
  some (none)) fun c16 =>
  some (c16)
theorem s_World_thingAt {w : Nat} {inch_ : Int32} {M : mM} {r : Option Nat} (hw : isW w) (h : F_World_thingAt z w inch_ M = some r) (hq : Q (some (rvO r)) (lay M)) : Sp X (d + 2) f_World_thingAt [.ref w, .int inch_] (lay M) Q := by
  refine Sp_of (by decide) rfl (Nat.le_of_ble_eq_true rfl) ?_
  obtain ⟨c16, e17, h⟩ := ob1_some h
  have k15 : wp X (d + 2) f_World_thingAt (0, 0) 22 [.ref w, .int inch_] [rvO c16] (lay M) Q := by
    cases h
    exact wr_aret d_World_thingAt_22 rfl rfl hq
  obtain ⟨x18, e19, e17⟩ := ob1_some e17
  have k22 : x18 = true → wp X (d + 2) f_World_thingAt (0, 0) 8 [.ref w, .int inch_] [] (lay M) Q := by
    intro x23
    replace e17 := ip e17 x23
    refine wp_aload_n d_World_thingAt_8 rfl rfl ?_
    refine wp_aload_n d_World_thingAt_9 rfl rfl ?_
    refine wl_getR d_World_thingAt_10 lf_World_18 (shW0 hw) rfl ?_
    refine wp_iload_n d_World_thingAt_13 rfl rfl ?_
    obtain ⟨v25, e24, e17⟩ := ob1_some e17
    refine wa_ald d_World_thingAt_14 (shW3 hw) e24 ?_
    obtain ⟨c26, e27, e17⟩ := ob1_some e17
    refine wl_callV1 d_World_thingAt_15 lc_World_find lv_World_92 rfl (shW0 hw) rfl rfl ⟨rfl, rfl⟩ ⟨by decide, by decide⟩ ?_
    refine s_World_find (d := d) hw e27 ?_
    cases e17
    refine wp_goto 22 d_World_thingAt_18 rfl ?_
    exact k15
  have k28 : ¬ x18 = true → wp X (d + 2) f_World_thingAt (0, 0) 21 [.ref w, .int inch_] [] (lay M) Q := by
    intro x29
    replace e17 := inn e17 x29
    refine wp_null d_World_thingAt_21 ?_
    cases e17
    exact k15
  refine wp_aload_n d_World_thingAt_0 rfl rfl ?_
  refine wp_iload_n d_World_thingAt_1 rfl rfl ?_
  obtain ⟨v30, e31, e19⟩ := ob1_some e19
  refine wl_callV1 d_World_thingAt_2 lc_World_isTaken lv_World_81 rfl (shW0 hw) rfl rfl ⟨rfl, rfl⟩ ⟨by decide, by decide⟩ ?_
  refine s_World_isTaken (d := d + 1) hw e31 ?_
  refine wc_eq 21 d_World_thingAt_5 rfl (fun h5 => ?_) (fun h5 => ?_)
  · cases e19
    exact k28 h5
  · cases e19
    exact k22 h5
def L_Rec_nearest_1 (z : Nat) (kind_ : Int32) (M : mM) (kt : Option (Int32)) : Nat → Int32 → Option (Int32)
  | 0, _ => none
  | n + 1, i_ =>
    if i_ < (nI 60) then
    ob1 (F_World_thingAt z 1 i_ M) fun c1 =>
    ob1 (if ¬ (c1 = none) then ob1 (dT c1) fun c13 =>
    some (decide ((M c13 1) = kind_))
    else some (false)) fun x3 =>
    if x3 = true then
    ob1 (dT c1) fun c9 =>
    some (M c9 0)
    else
    L_Rec_nearest_1 z kind_ M kt n (i_ + nI 1)
    else
    kt 
def F_Rec_nearest (z : Nat) (kind_ : Int32) (M : mM) : Option (Int32) :=
  L_Rec_nearest_1 z kind_ M (some ((-1))) z (nI 0)
theorem l_Rec_nearest_1 {kind_ : Int32} {M : mM} {kt : Option (Int32)}  {r : Int32} (hq : Q (some (.int r)) (lay M)) (K : ∀  (u2 u3 : Value), kt  = some r → wp X (d + 3) f_Rec_nearest (0, 0) 40 [.ref 0, .int kind_, u2, u3] [] (lay M) Q) : ∀ (n : Nat) (i_ : Int32) (u3 : Value), L_Rec_nearest_1 z kind_ M kt n i_ = some r → wp X (d + 3) f_Rec_nearest (0, 0) 2 [.ref 0, .int kind_, .int i_, u3] [] (lay M) Q := by
  intro n
  induction n with
  | zero => intro i_ u3 h; exact nn h
  | succ n ih =>
    intro i_ u3 h
    refine wp_iload_n d_Rec_nearest_2 rfl rfl ?_
    refine wp_bipush d_Rec_nearest_3 (v := nI 60) rfl ?_
    refine wq_icmp_ge 40 d_Rec_nearest_5 rfl (fun h5 => ?_) (fun h5 => ?_)
    · replace h := inn h h5
      exact K _ _ h
    · replace h := ip h h5
      refine wp_aload_n d_Rec_nearest_8 rfl rfl ?_
      refine wl_getR d_Rec_nearest_9 lf_Rec_12 sh_0 rfl ?_
      refine wp_iload_n d_Rec_nearest_12 rfl rfl ?_
      obtain ⟨c1, e2, h⟩ := ob1_some h
      refine wl_callV1 d_Rec_nearest_13 lc_World_thingAt lv_Rec_220 rfl (shW0 isW_1) rfl rfl ⟨rfl, rfl⟩ ⟨by decide, by decide⟩ ?_
      refine s_World_thingAt (d := d) isW_1 e2 ?_
      refine wr_astore_n d_Rec_nearest_16 rfl (by decide) ?_
      obtain ⟨x3, e4, h⟩ := ob1_some h
      have k7 : x3 = true → wp X (d + 3) f_Rec_nearest (0, 0) 29 [.ref 0, .int kind_, .int i_, rvO c1] [] (lay M) Q := by
        intro x8
        replace h := ip h x8
        refine wr_aload_n d_Rec_nearest_29 rfl rfl ?_
        obtain ⟨c9, e10, h⟩ := ob1_some h
        refine wr_deref e10 ?_
        have tc9 := dT_th e10
        refine wl_getI d_Rec_nearest_30 lf_Rec_223 (shTh tc9) rfl rfl ?_
        cases h
        exact wp_iret d_Rec_nearest_33 rfl rfl rfl hq
      have k11 : ¬ x3 = true → wp X (d + 3) f_Rec_nearest (0, 0) 34 [.ref 0, .int kind_, .int i_, rvO c1] [] (lay M) Q := by
        intro x12
        replace h := inn h x12
        refine wp_iinc d_Rec_nearest_34 (v := i_ + nI 1) rfl rfl ?_
        refine wp_goto 2 d_Rec_nearest_37 rfl ?_
        exact ih _ _ h
      refine wr_aload_n d_Rec_nearest_17 rfl rfl ?_
      refine wr_ifnull 34 d_Rec_nearest_18 rfl (fun h18 => ?_) (fun h18 => ?_)
      · replace e4 := inn e4 (fun z => z h18)
        cases e4
        exact k11 (fun z => Bool.noConfusion z)
      · replace e4 := ip e4 h18
        refine wr_aload_n d_Rec_nearest_21 rfl rfl ?_
        obtain ⟨c13, e14, e4⟩ := ob1_some e4
        refine wr_deref e14 ?_
        have tc13 := dT_th e14
        refine wl_getI d_Rec_nearest_22 lf_Rec_176 (shTh tc13) rfl rfl ?_
        refine wp_iload_n d_Rec_nearest_25 rfl rfl ?_
        refine wq_icmp_ne 34 d_Rec_nearest_26 rfl (fun h26 => ?_) (fun h26 => ?_)
        · cases e4
          exact k11 (fun z => h26 (of_decide_eq_true z))
        · cases e4
          exact k7 (decide_eq_true h26)
theorem s_Rec_nearest {kind_ : Int32} {M : mM} {r : Int32} (h : F_Rec_nearest z kind_ M = some r) (hq : Q (some (.int r)) (lay M)) : Sp X (d + 3) f_Rec_nearest [.ref 0, .int kind_] (lay M) Q := by
  refine Sp_of (by decide) rfl (Nat.le_of_ble_eq_true rfl) ?_
  refine wp_iconst d_Rec_nearest_0 (v := nI 0) rfl ?_
  refine wp_istore_n d_Rec_nearest_1 rfl (by decide) ?_
  refine l_Rec_nearest_1 hq ?_ _ _ _ h
  intro u2 u3 h
  refine wp_iconst d_Rec_nearest_40 (v := (-1)) rfl ?_
  cases h
  exact wp_iret d_Rec_nearest_41 rfl rfl rfl hq
def L_Arrays_fill_1 (z : Nat) (c_a : Nat) (n_a : Nat) (val_ : Int32) (len_ : Int32) : Nat → Int32 → mM → Option (mM)
  | 0, _, _ => none
  | n + 1, i_, M =>
    if i_ < len_ then
    ob1 (wa M c_a n_a i_ val_) fun M2 =>
    L_Arrays_fill_1 z c_a n_a val_ len_ n (i_ + nI 1) M2
    else
    some (M)
def F_Arrays_fill (z : Nat) (c_a : Nat) (n_a : Nat) (val_ : Int32) (M : mM) : Option mM :=
  ob1 (L_Arrays_fill_1 z c_a n_a val_ (nI n_a) z (nI 0) M) fun M3 =>
  some M3
theorem l_Arrays_fill_1 {c_a : Nat} {n_a : Nat} {val_ : Int32} {len_ : Int32}  {N' : mM} (hs_a : SH[c_a]? = some (0, n_a, [])) (K : ∀ u2 : Value, wp X d f_Arrays_fill (0, 0) 20 [.ref c_a, .int val_, u2, .int len_] [] (lay N') Q) : ∀ (n : Nat) (i_ : Int32) (M : mM), L_Arrays_fill_1 z c_a n_a val_ len_ n i_ M = some (N') → wp X d f_Arrays_fill (0, 0) 5 [.ref c_a, .int val_, .int i_, .int len_] [] (lay M) Q := by
  intro n
  induction n with
  | zero => intro i_ M h; exact nn h
  | succ n ih =>
    intro i_ M h
    refine wp_iload_n d_Arrays_fill_5 rfl rfl ?_
    refine wp_iload_n d_Arrays_fill_6 rfl rfl ?_
    refine wq_icmp_ge 20 d_Arrays_fill_7 rfl (fun h7 => ?_) (fun h7 => ?_)
    · replace h := inn h h7
      cases h
      exact K _
    · replace h := ip h h7
      refine wp_aload_n d_Arrays_fill_10 rfl rfl ?_
      refine wp_iload_n d_Arrays_fill_11 rfl rfl ?_
      refine wp_iload_n d_Arrays_fill_12 rfl rfl ?_
      obtain ⟨M2, e1, h⟩ := ob1_some h
      refine wa_ast d_Arrays_fill_13 hs_a e1 ?_
      refine wp_iinc d_Arrays_fill_14 (v := i_ + nI 1) rfl rfl ?_
      refine wp_goto 5 d_Arrays_fill_17 rfl ?_
      exact ih _ _ h
theorem s_Arrays_fill {c_a : Nat} {n_a : Nat} {val_ : Int32} {M : mM} {M' : mM} (hs_a : SH[c_a]? = some (0, n_a, [])) (h : F_Arrays_fill z c_a n_a val_ M = some M') (hq : Q none (lay M')) : Sp X d f_Arrays_fill [.ref c_a, .int val_] (lay M) Q := by
  refine Sp_of (by decide) rfl (Nat.le_of_ble_eq_true rfl) ?_
  refine wp_iconst d_Arrays_fill_0 (v := nI 0) rfl ?_
  refine wp_istore_n d_Arrays_fill_1 rfl (by decide) ?_
  refine wp_aload_n d_Arrays_fill_2 rfl rfl ?_
  refine wl_alen (by decide) d_Arrays_fill_3 hs_a ?_
  refine wp_istore_n d_Arrays_fill_4 rfl (by decide) ?_
  obtain ⟨M3, e4, h⟩ := ob1_some h
  refine l_Arrays_fill_1 hs_a ?_ _ _ _ e4
  intro u2
  cases h
  exact wp_ret d_Arrays_fill_20 rfl rfl hq
def F_Asker_reach (w_world : Nat) (inch_ : Int32) (M : mM) : Option mM :=
  ob1 (ob1 (ob1 (ob1 (F_World_isTaken w_world inch_ M) fun v71 =>
  some (v71)) fun x61 =>
  if x61 = true then ob1 (ra M 137 60 inch_) fun v68 =>
  some (decide (v68 = (nI 0)))
  else some (false)) fun x43 =>
  if x43 = true then some (decide ((M 136 6) < (nI 60)))
  else some (false)) fun x1 =>
  if x1 = true then
  ob1 (wa M 137 60 inch_ (nI 1)) fun M36 =>
  ob1 (wa M36 138 60 (M36 136 6) inch_) fun M38 =>
  ob1 (some (up M38 136 6 ((M38 136 6) + (nI 1)))) fun M39 =>
  some M39
  else
  some M
theorem s_Asker_reach {w_world : Nat} {inch_ : Int32} {M : mM} {M' : mM} (hw_world : isW w_world) (h : F_Asker_reach w_world inch_ M = some M') (hq : Q none (lay M')) : Sp X (d + 1) f_Asker_reach [.ref 136, .ref w_world, .int inch_] (lay M) Q := by
  refine Sp_of (by decide) rfl (Nat.le_of_ble_eq_true rfl) ?_
  obtain ⟨x1, e2, h⟩ := ob1_some h
  have k33 : x1 = true → wp X (d + 1) f_Asker_reach (0, 0) 26 [.ref 136, .ref w_world, .int inch_] [] (lay M) Q := by
    intro x34
    replace h := ip h x34
    refine wp_aload_n d_Asker_reach_26 rfl rfl ?_
    refine wl_getR d_Asker_reach_27 lf_Asker_9 sh_136 rfl ?_
    refine wp_iload_n d_Asker_reach_30 rfl rfl ?_
    refine wp_iconst d_Asker_reach_31 (v := nI 1) rfl ?_
    obtain ⟨M36, e35, h⟩ := ob1_some h
    refine wa_ast d_Asker_reach_32 sh_137 e35 ?_
    refine wp_aload_n d_Asker_reach_33 rfl rfl ?_
    refine wl_getR d_Asker_reach_34 lf_Asker_15 sh_136 rfl ?_
    refine wp_aload_n d_Asker_reach_37 rfl rfl ?_
    refine wl_getI d_Asker_reach_38 lf_Asker_30 sh_136 rfl rfl ?_
    refine wp_iload_n d_Asker_reach_41 rfl rfl ?_
    obtain ⟨M38, e37, h⟩ := ob1_some h
    refine wa_ast d_Asker_reach_42 sh_138 e37 ?_
    refine wp_aload_n d_Asker_reach_43 rfl rfl ?_
    refine wp_dup d_Asker_reach_44 rfl ?_
    refine wl_getI d_Asker_reach_45 lf_Asker_30 sh_136 rfl rfl ?_
    refine wp_iconst d_Asker_reach_48 (v := nI 1) rfl ?_
    refine wp_iadd d_Asker_reach_49 ?_
    refine wl_put d_Asker_reach_50 lp_Asker_30 sh_136 rfl ⟨rfl, rfl⟩ ?_
    obtain ⟨M39, e40, h⟩ := ob1_some h
    refine wx_M e40 ?_
    cases h
    exact wp_ret d_Asker_reach_53 rfl rfl hq
  have k41 : ¬ x1 = true → wp X (d + 1) f_Asker_reach (0, 0) 53 [.ref 136, .ref w_world, .int inch_] [] (lay M) Q := by
    intro x42
    replace h := inn h x42
    cases h
    exact wp_ret d_Asker_reach_53 rfl rfl hq
  obtain ⟨x43, e44, e2⟩ := ob1_some e2
  have k57 : x43 = true → wp X (d + 1) f_Asker_reach (0, 0) 17 [.ref 136, .ref w_world, .int inch_] [] (lay M) Q := by
    intro x58
    replace e2 := ip e2 x58
    refine wp_aload_n d_Asker_reach_17 rfl rfl ?_
    refine wl_getI d_Asker_reach_18 lf_Asker_30 sh_136 rfl rfl ?_
    refine wp_bipush d_Asker_reach_21 (v := nI 60) rfl ?_
    refine wq_icmp_ge 53 d_Asker_reach_23 rfl (fun h23 => ?_) (fun h23 => ?_)
    · cases e2
      exact k41 (fun z => h23 (of_decide_eq_true z))
    · cases e2
      exact k33 (decide_eq_true h23)
  have k59 : ¬ x43 = true → wp X (d + 1) f_Asker_reach (0, 0) 53 [.ref 136, .ref w_world, .int inch_] [] (lay M) Q := by
    intro x60
    replace e2 := inn e2 x60
    cases e2
    exact k41 (fun z => Bool.noConfusion z)
  obtain ⟨x61, e62, e44⟩ := ob1_some e44
  have k65 : x61 = true → wp X (d + 1) f_Asker_reach (0, 0) 8 [.ref 136, .ref w_world, .int inch_] [] (lay M) Q := by
    intro x66
    replace e44 := ip e44 x66
    refine wp_aload_n d_Asker_reach_8 rfl rfl ?_
    refine wl_getR d_Asker_reach_9 lf_Asker_9 sh_136 rfl ?_
    refine wp_iload_n d_Asker_reach_12 rfl rfl ?_
    obtain ⟨v68, e67, e44⟩ := ob1_some e44
    refine wa_ald d_Asker_reach_13 sh_137 e67 ?_
    refine wz_ne 53 d_Asker_reach_14 rfl (fun h14 => ?_) (fun h14 => ?_)
    · cases e44
      exact k59 (fun z => h14 (of_decide_eq_true z))
    · cases e44
      exact k57 (decide_eq_true h14)
  have k69 : ¬ x61 = true → wp X (d + 1) f_Asker_reach (0, 0) 53 [.ref 136, .ref w_world, .int inch_] [] (lay M) Q := by
    intro x70
    replace e44 := inn e44 x70
    cases e44
    exact k59 (fun z => Bool.noConfusion z)
  refine wp_aload_n d_Asker_reach_0 rfl rfl ?_
  refine wp_iload_n d_Asker_reach_1 rfl rfl ?_
  obtain ⟨v71, e72, e62⟩ := ob1_some e62
  refine wl_callV1 d_Asker_reach_2 lc_World_isTaken lv_Asker_44 rfl (shW0 hw_world) rfl rfl ⟨rfl, rfl⟩ ⟨by decide, by decide⟩ ?_
  refine s_World_isTaken (d := d) hw_world e72 ?_
  refine wc_eq 53 d_Asker_reach_5 rfl (fun h5 => ?_) (fun h5 => ?_)
  · cases e62
    exact k69 h5
  · cases e62
    exact k65 h5
def L_Asker_heap_2 (z : Nat) (w_world : Nat) : Nat → Int32 → mM → Option (mM)
  | 0, _, _ => none
  | n + 1, head_, M =>
    if (head_ < (M 136 6) ∧ head_ < (nI 60)) then
    ob1 (ra M 138 60 head_) fun v10 =>
    ob1 (F_Asker_reach w_world (v10 - (nI 1)) M) fun M11 =>
    ob1 (ra M11 138 60 head_) fun v14 =>
    ob1 (F_Asker_reach w_world (v14 + (nI 1)) M11) fun M15 =>
    ob1 (ra M15 138 60 head_) fun v18 =>
    ob1 (F_Asker_reach w_world (v18 - (nI 10)) M15) fun M19 =>
    ob1 (ra M19 138 60 head_) fun v22 =>
    ob1 (F_Asker_reach w_world (v22 + (nI 10)) M19) fun M23 =>
    L_Asker_heap_2 z w_world n (head_ + nI 1) M23
    else
    some (M)
def L_Asker_heap_1 (z : Nat) (w_world : Nat) : Nat → Int32 → Int32 → Int32 → Int32 → mM → Option (Int32 × Int32 × Int32 × mM)
  | 0, _, _, _, _, _ => none
  | n + 1, parts_, greatest_, least_, i_, M =>
    if i_ < (nI 60) then
    ob1 (some (up M 136 6 (nI 0))) fun M3 =>
    ob1 (F_Asker_reach w_world i_ M3) fun M5 =>
    ob1 (L_Asker_heap_2 z w_world z (nI 0) M5) fun M25 =>
    ob1 (some (parts_ + (if (nI 0) < (M25 136 6) then nI 1 else nI 0))) fun v27 =>
    ob2 (if greatest_ < (M25 136 6) then
    some (M25 136 6, i_)
    else
    some (greatest_, least_)) fun greatest_30 least_31 =>
    L_Asker_heap_1 z w_world n v27 greatest_30 least_31 (i_ + nI 1) M25
    else
    some (parts_, greatest_, least_, M)
def F_Asker_heap (z : Nat) (w_world : Nat) (what_ : Int32) (M : mM) : Option (Int32 × mM) :=
  ob1 (F_Arrays_fill z 137 60 (nI 0) M) fun M1 =>
  ob4 (L_Asker_heap_1 z w_world z (nI 0) (nI 0) (-1) (nI 0) M1) fun parts_34 greatest_35 least_36 M37 =>
  some ((if what_ = (nI 0) then parts_34 else (if what_ = (nI 1) then greatest_35 else least_36)), M37)
theorem l_Asker_heap_2 {w_world : Nat}  {q2 : Value} {q3 : Value} {q4 : Value} {q5 : Value} {q6 : Value} {N' : mM} (hw_world : isW w_world) (K : ∀ u7 : Value, wp X (d + 2) f_Asker_heap (0, 0) 121 [.ref 136, .ref w_world, q2, q3, q4, q5, q6, u7] [] (lay N') Q) : ∀ (n : Nat) (head_ : Int32) (M : mM), L_Asker_heap_2 z w_world n head_ M = some (N') → wp X (d + 2) f_Asker_heap (0, 0) 41 [.ref 136, .ref w_world, q2, q3, q4, q5, q6, .int head_] [] (lay M) Q := by
  intro n
  induction n with
  | zero => intro head_ M h; exact nn h
  | succ n ih =>
    intro head_ M h
    have k7 : ¬ (head_ < (M 136 6) ∧ head_ < (nI 60)) → wp X (d + 2) f_Asker_heap (0, 0) 121 [.ref 136, .ref w_world, q2, q3, q4, q5, q6, .int head_] [] (lay M) Q := by
      intro x8
      replace h := inn h x8
      cases h
      exact K _
    refine wp_iload d_Asker_heap_41 rfl ?_
    refine wp_aload_n d_Asker_heap_43 rfl rfl ?_
    refine wl_getI d_Asker_heap_44 lf_Asker_30 sh_136 rfl rfl ?_
    refine wq_icmp_ge 121 d_Asker_heap_47 rfl (fun h47 => ?_) (fun h47 => ?_)
    · exact k7 (fun z => h47 z.1)
    · refine wp_iload d_Asker_heap_50 rfl ?_
      refine wp_bipush d_Asker_heap_52 (v := nI 60) rfl ?_
      refine wq_icmp_ge 121 d_Asker_heap_54 rfl (fun h54 => ?_) (fun h54 => ?_)
      · exact k7 (fun z => h54 z.2)
      · replace h := ip h ⟨h47, h54⟩
        refine wp_aload_n d_Asker_heap_57 rfl rfl ?_
        refine wp_aload_n d_Asker_heap_58 rfl rfl ?_
        refine wp_aload_n d_Asker_heap_59 rfl rfl ?_
        refine wl_getR d_Asker_heap_60 lf_Asker_15 sh_136 rfl ?_
        refine wp_iload d_Asker_heap_63 rfl ?_
        obtain ⟨v10, e9, h⟩ := ob1_some h
        refine wa_ald d_Asker_heap_65 sh_138 e9 ?_
        refine wp_iconst d_Asker_heap_66 (v := nI 1) rfl ?_
        refine wp_isub d_Asker_heap_67 ?_
        obtain ⟨M11, e12, h⟩ := ob1_some h
        refine wl_callV2 d_Asker_heap_68 lc_Asker_reach lv_Asker_40 rfl sh_136 rfl rfl ⟨rfl, rfl⟩ ⟨by decide, by decide⟩ ?_
        refine s_Asker_reach (d := d) hw_world e12 ?_
        refine wp_aload_n d_Asker_heap_71 rfl rfl ?_
        refine wp_aload_n d_Asker_heap_72 rfl rfl ?_
        refine wp_aload_n d_Asker_heap_73 rfl rfl ?_
        refine wl_getR d_Asker_heap_74 lf_Asker_15 sh_136 rfl ?_
        refine wp_iload d_Asker_heap_77 rfl ?_
        obtain ⟨v14, e13, h⟩ := ob1_some h
        refine wa_ald d_Asker_heap_79 sh_138 e13 ?_
        refine wp_iconst d_Asker_heap_80 (v := nI 1) rfl ?_
        refine wp_iadd d_Asker_heap_81 ?_
        obtain ⟨M15, e16, h⟩ := ob1_some h
        refine wl_callV2 d_Asker_heap_82 lc_Asker_reach lv_Asker_40 rfl sh_136 rfl rfl ⟨rfl, rfl⟩ ⟨by decide, by decide⟩ ?_
        refine s_Asker_reach (d := d) hw_world e16 ?_
        refine wp_aload_n d_Asker_heap_85 rfl rfl ?_
        refine wp_aload_n d_Asker_heap_86 rfl rfl ?_
        refine wp_aload_n d_Asker_heap_87 rfl rfl ?_
        refine wl_getR d_Asker_heap_88 lf_Asker_15 sh_136 rfl ?_
        refine wp_iload d_Asker_heap_91 rfl ?_
        obtain ⟨v18, e17, h⟩ := ob1_some h
        refine wa_ald d_Asker_heap_93 sh_138 e17 ?_
        refine wp_bipush d_Asker_heap_94 (v := nI 10) rfl ?_
        refine wp_isub d_Asker_heap_96 ?_
        obtain ⟨M19, e20, h⟩ := ob1_some h
        refine wl_callV2 d_Asker_heap_97 lc_Asker_reach lv_Asker_40 rfl sh_136 rfl rfl ⟨rfl, rfl⟩ ⟨by decide, by decide⟩ ?_
        refine s_Asker_reach (d := d) hw_world e20 ?_
        refine wp_aload_n d_Asker_heap_100 rfl rfl ?_
        refine wp_aload_n d_Asker_heap_101 rfl rfl ?_
        refine wp_aload_n d_Asker_heap_102 rfl rfl ?_
        refine wl_getR d_Asker_heap_103 lf_Asker_15 sh_136 rfl ?_
        refine wp_iload d_Asker_heap_106 rfl ?_
        obtain ⟨v22, e21, h⟩ := ob1_some h
        refine wa_ald d_Asker_heap_108 sh_138 e21 ?_
        refine wp_bipush d_Asker_heap_109 (v := nI 10) rfl ?_
        refine wp_iadd d_Asker_heap_111 ?_
        obtain ⟨M23, e24, h⟩ := ob1_some h
        refine wl_callV2 d_Asker_heap_112 lc_Asker_reach lv_Asker_40 rfl sh_136 rfl rfl ⟨rfl, rfl⟩ ⟨by decide, by decide⟩ ?_
        refine s_Asker_reach (d := d) hw_world e24 ?_
        refine wp_iinc d_Asker_heap_115 (v := head_ + nI 1) rfl rfl ?_
        refine wp_goto 41 d_Asker_heap_118 rfl ?_
        exact ih _ _ h
theorem l_Asker_heap_1 {w_world : Nat}  {q2 : Value} {parts_r : Int32} {greatest_r : Int32} {least_r : Int32} {N' : mM} (hw_world : isW w_world) (K : ∀ u6 u7 : Value, wp X (d + 2) f_Asker_heap (0, 0) 161 [.ref 136, .ref w_world, q2, .int parts_r, .int greatest_r, .int least_r, u6, u7] [] (lay N') Q) : ∀ (n : Nat) (parts_ : Int32) (greatest_ : Int32) (least_ : Int32) (i_ : Int32) (M : mM) (u7 : Value), L_Asker_heap_1 z w_world n parts_ greatest_ least_ i_ M = some (parts_r, greatest_r, least_r, N') → wp X (d + 2) f_Asker_heap (0, 0) 19 [.ref 136, .ref w_world, q2, .int parts_, .int greatest_, .int least_, .int i_, u7] [] (lay M) Q := by
  intro n
  induction n with
  | zero => intro parts_ greatest_ least_ i_ M u7 h; exact nn h
  | succ n ih =>
    intro parts_ greatest_ least_ i_ M u7 h
    refine wp_iload d_Asker_heap_19 rfl ?_
    refine wp_bipush d_Asker_heap_21 (v := nI 60) rfl ?_
    refine wq_icmp_ge 161 d_Asker_heap_23 rfl (fun h23 => ?_) (fun h23 => ?_)
    · replace h := inn h h23
      cases h
      exact K _ _
    · replace h := ip h h23
      refine wp_aload_n d_Asker_heap_26 rfl rfl ?_
      refine wp_iconst d_Asker_heap_27 (v := nI 0) rfl ?_
      refine wl_put d_Asker_heap_28 lp_Asker_30 sh_136 rfl ⟨rfl, rfl⟩ ?_
      obtain ⟨M3, e4, h⟩ := ob1_some h
      refine wx_M e4 ?_
      refine wp_aload_n d_Asker_heap_31 rfl rfl ?_
      refine wp_aload_n d_Asker_heap_32 rfl rfl ?_
      refine wp_iload d_Asker_heap_33 rfl ?_
      obtain ⟨M5, e6, h⟩ := ob1_some h
      refine wl_callV2 d_Asker_heap_35 lc_Asker_reach lv_Asker_40 rfl sh_136 rfl rfl ⟨rfl, rfl⟩ ⟨by decide, by decide⟩ ?_
      refine s_Asker_reach (d := d) hw_world e6 ?_
      refine wp_iconst d_Asker_heap_38 (v := nI 0) rfl ?_
      refine wp_istore d_Asker_heap_39 (by decide) ?_
      obtain ⟨M25, e33, h⟩ := ob1_some h
      refine l_Asker_heap_2 hw_world ?_ _ _ _ e33
      intro u7
      refine wp_iload_n d_Asker_heap_121 rfl rfl ?_
      have k26 : ∀ u7 : Value, wp X (d + 2) f_Asker_heap (0, 0) 134 [.ref 136, .ref w_world, q2, .int parts_, .int greatest_, .int least_, .int i_, u7] [.int (if (nI 0) < (M25 136 6) then nI 1 else nI 0), .int parts_] (lay M25) Q := by
        intro u7
        refine wp_iadd d_Asker_heap_134 ?_
        obtain ⟨v27, e28, h⟩ := ob1_some h
        refine wx_int e28 ?_
        refine wp_istore_n d_Asker_heap_135 rfl (by decide) ?_
        obtain ⟨greatest_30, least_31, e32, h⟩ := ob2_some h
        have k29 : ∀ u7 : Value, wp X (d + 2) f_Asker_heap (0, 0) 155 [.ref 136, .ref w_world, q2, .int v27, .int greatest_30, .int least_31, .int i_, u7] [] (lay M25) Q := by
          intro u7
          refine wp_iinc d_Asker_heap_155 (v := i_ + nI 1) rfl rfl ?_
          refine wp_goto 19 d_Asker_heap_158 rfl ?_
          exact ih _ _ _ _ _ _ h
        refine wp_aload_n d_Asker_heap_136 rfl rfl ?_
        refine wl_getI d_Asker_heap_137 lf_Asker_30 sh_136 rfl rfl ?_
        refine wp_iload d_Asker_heap_140 rfl ?_
        refine wq_icmp_le 155 d_Asker_heap_142 rfl (fun h142 => ?_) (fun h142 => ?_)
        · replace e32 := inn e32 h142
          cases e32
          exact k29 _
        · replace e32 := ip e32 h142
          refine wp_aload_n d_Asker_heap_145 rfl rfl ?_
          refine wl_getI d_Asker_heap_146 lf_Asker_30 sh_136 rfl rfl ?_
          refine wp_istore d_Asker_heap_149 (by decide) ?_
          refine wp_iload d_Asker_heap_151 rfl ?_
          refine wp_istore d_Asker_heap_153 (by decide) ?_
          cases e32
          exact k29 _
      refine wp_aload_n d_Asker_heap_122 rfl rfl ?_
      refine wl_getI d_Asker_heap_123 lf_Asker_30 sh_136 rfl rfl ?_
      refine wz_le 133 d_Asker_heap_126 rfl (fun h126 => ?_) (fun h126 => ?_)
      · refine wp_iconst d_Asker_heap_133 (v := nI 0) rfl ?_
        exact wj_in h126 (k26 _)
      · refine wp_iconst d_Asker_heap_129 (v := nI 1) rfl ?_
        refine wp_goto 134 d_Asker_heap_130 rfl ?_
        exact wj_ip h126 (k26 _)
theorem s_Asker_heap {w_world : Nat} {what_ : Int32} {M : mM} {r : Int32} {M' : mM} (hw_world : isW w_world) (h : F_Asker_heap z w_world what_ M = some (r, M')) (hq : Q (some (.int r)) (lay M')) : Sp X (d + 2) f_Asker_heap [.ref 136, .ref w_world, .int what_] (lay M) Q := by
  refine Sp_of (by decide) rfl (Nat.le_of_ble_eq_true rfl) ?_
  refine wp_iconst d_Asker_heap_0 (v := nI 0) rfl ?_
  refine wp_istore_n d_Asker_heap_1 rfl (by decide) ?_
  refine wp_iconst d_Asker_heap_2 (v := nI 0) rfl ?_
  refine wp_istore d_Asker_heap_3 (by decide) ?_
  refine wp_iconst d_Asker_heap_5 (v := (-1)) rfl ?_
  refine wp_istore d_Asker_heap_6 (by decide) ?_
  refine wp_aload_n d_Asker_heap_8 rfl rfl ?_
  refine wl_getR d_Asker_heap_9 lf_Asker_9 sh_136 rfl ?_
  refine wp_iconst d_Asker_heap_12 (v := nI 0) rfl ?_
  obtain ⟨M1, e2, h⟩ := ob1_some h
  refine wl_callS2 d_Asker_heap_13 lc_Arrays_fill ls_Asker_34 rfl ⟨rfl, rfl⟩ ⟨by decide, by decide⟩ ?_
  refine s_Arrays_fill (d := d + 1) sh_137 e2 ?_
  refine wp_iconst d_Asker_heap_16 (v := nI 0) rfl ?_
  refine wp_istore d_Asker_heap_17 (by decide) ?_
  obtain ⟨parts_34, greatest_35, least_36, M37, e41, h⟩ := ob4_some h
  refine l_Asker_heap_1 hw_world ?_ _ _ _ _ _ _ _ e41
  intro u6 u7
  have k39 : ∀ u6 u7 : Value, wp X (d + 2) f_Asker_heap (0, 0) 181 [.ref 136, .ref w_world, .int what_, .int parts_34, .int greatest_35, .int least_36, u6, u7] [.int (if what_ = (nI 0) then parts_34 else (if what_ = (nI 1) then greatest_35 else least_36))] (lay M37) Q := by
    intro u6 u7
    cases h
    exact wp_iret d_Asker_heap_181 rfl rfl rfl hq
  refine wp_iload_n d_Asker_heap_161 rfl rfl ?_
  refine wz_ne 169 d_Asker_heap_162 rfl (fun h162 => ?_) (fun h162 => ?_)
  · have k40 : ∀ u6 u7 : Value, wp X (d + 2) f_Asker_heap (0, 0) 181 [.ref 136, .ref w_world, .int what_, .int parts_34, .int greatest_35, .int least_36, u6, u7] [.int (if what_ = (nI 1) then greatest_35 else least_36)] (lay M37) Q := by
      intro u6 u7
      exact wj_in h162 (k39 _ _)
    refine wp_iload_n d_Asker_heap_169 rfl rfl ?_
    refine wp_iconst d_Asker_heap_170 (v := nI 1) rfl ?_
    refine wq_icmp_ne 179 d_Asker_heap_171 rfl (fun h171 => ?_) (fun h171 => ?_)
    · refine wp_iload d_Asker_heap_179 rfl ?_
      exact wj_in h171 (k40 _ _)
    · refine wp_iload d_Asker_heap_174 rfl ?_
      refine wp_goto 181 d_Asker_heap_176 rfl ?_
      exact wj_ip h171 (k40 _ _)
  · refine wp_iload_n d_Asker_heap_165 rfl rfl ?_
    refine wp_goto 181 d_Asker_heap_166 rfl ?_
    exact wj_ip h162 (k39 _ _)
def F_Rec_heaps (z : Nat) (what_ : Int32) (M : mM) : Option (Int32 × mM) :=
  ob2 (if (F_Rec_within what_ (nI 0) (nI 2)) = true then
  ob2 (F_Asker_heap z 1 what_ M) fun v8 M9 =>
  some (v8, M9)
  else
  some ((-1), M)) fun v5 M7 =>
  some (v5, M7)
theorem s_Rec_heaps {what_ : Int32} {M : mM} {r : Int32} {M' : mM} (h : F_Rec_heaps z what_ M = some (r, M')) (hq : Q (some (.int r)) (lay M')) : Sp X (d + 3) f_Rec_heaps [.ref 0, .int what_] (lay M) Q := by
  refine Sp_of (by decide) rfl (Nat.le_of_ble_eq_true rfl) ?_
  obtain ⟨v5, M7, e6, h⟩ := ob2_some h
  have k4 : wp X (d + 3) f_Rec_heaps (0, 0) 25 [.ref 0, .int what_] [.int v5] (lay M7) Q := by
    cases h
    exact wp_iret d_Rec_heaps_25 rfl rfl rfl hq
  refine wp_iload_n d_Rec_heaps_0 rfl rfl ?_
  refine wp_iconst d_Rec_heaps_1 (v := nI 0) rfl ?_
  refine wp_iconst d_Rec_heaps_2 (v := nI 2) rfl ?_
  refine wl_callS3 d_Rec_heaps_3 lc_Rec_within ls_Rec_96 rfl ⟨rfl, rfl⟩ ⟨by decide, by decide⟩ ?_
  refine s_Rec_within (d := d + 2) rfl ?_
  refine wc_eq 24 d_Rec_heaps_6 rfl (fun h6 => ?_) (fun h6 => ?_)
  · replace e6 := inn e6 h6
    refine wp_iconst d_Rec_heaps_24 (v := (-1)) rfl ?_
    cases e6
    exact k4
  · replace e6 := ip e6 h6
    refine wp_aload_n d_Rec_heaps_9 rfl rfl ?_
    refine wl_getR d_Rec_heaps_10 lf_Rec_57 sh_0 rfl ?_
    refine wp_aload_n d_Rec_heaps_13 rfl rfl ?_
    refine wl_getR d_Rec_heaps_14 lf_Rec_12 sh_0 rfl ?_
    refine wp_iload_n d_Rec_heaps_17 rfl rfl ?_
    obtain ⟨v8, M9, e10, e6⟩ := ob2_some e6
    refine wl_callV2 d_Rec_heaps_18 lc_Asker_heap lv_Rec_226 rfl sh_136 rfl rfl ⟨rfl, rfl⟩ ⟨by decide, by decide⟩ ?_
    refine s_Asker_heap (d := d) isW_1 e10 ?_
    cases e6
    refine wp_goto 25 d_Rec_heaps_21 rfl ?_
    exact k4
def F_Rec_tell (r_rows : Nat) (wd_rows : Nat) (mo_rows : Nat) (a_ : Int32) (b_ : Int32) (none_ : Bool) (can_ : Bool) (M : mM) : Option (Int32 × mM) :=
  if none_ = true then
  ob1 (some (up M r_rows 3 (nI 0))) fun M5 =>
  some (nI 0, M5)
  else
  if (¬ (can_ = true) ∨ (F_Rows_isFull r_rows wd_rows mo_rows M) = true) then
  some ((-1), M)
  else
  ob1 (F_Rows_add r_rows wd_rows mo_rows a_ b_ (nI 0) (nI 0) (nI 0) M) fun M3 =>
  some (M3 r_rows 3, M3)
theorem s_Rec_tell {r_rows : Nat} {wd_rows : Nat} {mo_rows : Nat} {a_ : Int32} {b_ : Int32} {none_ : Bool} {can_ : Bool} {M : mM} {r : Int32} {M' : mM} (hr_rows : isR r_rows wd_rows mo_rows) (h : F_Rec_tell r_rows wd_rows mo_rows a_ b_ none_ can_ M = some (r, M')) (hq : Q (some (.int r)) (lay M')) : Sp X (d + 2) f_Rec_tell [.ref r_rows, .int a_, .int b_, .int (bI none_), .int (bI can_)] (lay M) Q := by
  refine Sp_of (by decide) rfl (Nat.le_of_ble_eq_true rfl) ?_
  refine wp_iload_n d_Rec_tell_0 rfl rfl ?_
  refine wc_eq 11 d_Rec_tell_1 rfl (fun h1 => ?_) (fun h1 => ?_)
  · replace h := inn h h1
    have k1 : (¬ (can_ = true) ∨ (F_Rows_isFull r_rows wd_rows mo_rows M) = true) → wp X (d + 2) f_Rec_tell (0, 0) 23 [.ref r_rows, .int a_, .int b_, .int (bI none_), .int (bI can_)] [] (lay M) Q := by
      intro x2
      replace h := ip h x2
      refine wp_iconst d_Rec_tell_23 (v := (-1)) rfl ?_
      cases h
      exact wp_iret d_Rec_tell_24 rfl rfl rfl hq
    refine wp_iload d_Rec_tell_11 rfl ?_
    refine wc_eq 23 d_Rec_tell_13 rfl (fun h13 => ?_) (fun h13 => ?_)
    · exact k1 (Or.inl h13)
    · refine wp_aload_n d_Rec_tell_16 rfl rfl ?_
      refine wl_callV0 d_Rec_tell_17 lc_Rows_isFull lv_Rec_355 rfl (isR0 hr_rows) rfl rfl ⟨rfl, rfl⟩ ⟨by decide, by decide⟩ ?_
      refine s_Rows_isFull (d := d + 1) hr_rows rfl ?_
      refine wc_eq 25 d_Rec_tell_20 rfl (fun h20 => ?_) (fun h20 => ?_)
      · replace h := inn h (fun z => z.elim (fun z => z h13) h20)
        refine wp_aload_n d_Rec_tell_25 rfl rfl ?_
        refine wp_iload_n d_Rec_tell_26 rfl rfl ?_
        refine wp_iload_n d_Rec_tell_27 rfl rfl ?_
        refine wp_iconst d_Rec_tell_28 (v := nI 0) rfl ?_
        refine wp_iconst d_Rec_tell_29 (v := nI 0) rfl ?_
        refine wp_iconst d_Rec_tell_30 (v := nI 0) rfl ?_
        obtain ⟨M3, e4, h⟩ := ob1_some h
        refine wl_callV5 d_Rec_tell_31 lc_Rows_add lv_Rec_359 rfl (isR0 hr_rows) rfl rfl ⟨rfl, rfl⟩ ⟨by decide, by decide⟩ ?_
        refine s_Rows_add (d := d) hr_rows e4 ?_
        refine wp_aload_n d_Rec_tell_34 rfl rfl ?_
        refine wl_getI d_Rec_tell_35 lf_Rec_202 (isR0 hr_rows) rfl rfl ?_
        cases h
        exact wp_iret d_Rec_tell_38 rfl rfl rfl hq
      · exact k1 (Or.inr h20)
  · replace h := ip h h1
    refine wp_aload_n d_Rec_tell_4 rfl rfl ?_
    refine wp_iconst d_Rec_tell_5 (v := nI 0) rfl ?_
    refine wl_put d_Rec_tell_6 lp_Rec_202 (isR0 hr_rows) rfl ⟨rfl, rfl⟩ ?_
    obtain ⟨M5, e6, h⟩ := ob1_some h
    refine wx_M e6 ?_
    refine wp_iconst d_Rec_tell_9 (v := nI 0) rfl ?_
    cases h
    exact wp_iret d_Rec_tell_10 rfl rfl rfl hq
def F_Rec_kind (v_ : Int32) (M : mM) : Option (Int32 × mM) :=
  ob2 (F_Rec_tell 40 1 8 v_ (nI 0) (decide (v_ = (-1))) (F_Rec_within v_ (nI 0) (nI 5)) M) fun v2 M3 =>
  some (v2, M3)
theorem s_Rec_kind {v_ : Int32} {M : mM} {r : Int32} {M' : mM} (h : F_Rec_kind v_ M = some (r, M')) (hq : Q (some (.int r)) (lay M')) : Sp X (d + 3) f_Rec_kind [.ref 0, .int v_] (lay M) Q := by
  refine Sp_of (by decide) rfl (Nat.le_of_ble_eq_true rfl) ?_
  refine wp_aload_n d_Rec_kind_0 rfl rfl ?_
  refine wl_getR d_Rec_kind_1 lf_Rec_19 sh_0 rfl ?_
  refine wl_getR d_Rec_kind_4 lf_Rec_230 (shT0 isTd_28) rfl ?_
  refine wp_iload_n d_Rec_kind_7 rfl rfl ?_
  refine wp_iconst d_Rec_kind_8 (v := nI 0) rfl ?_
  have k1 : wp X (d + 3) f_Rec_kind (0, 0) 19 [.ref 0, .int v_] [.int (bI (decide (v_ = (-1)))), .int (nI 0), .int v_, .ref 40] (lay M) Q := by
    refine wp_iload_n d_Rec_kind_19 rfl rfl ?_
    refine wp_iconst d_Rec_kind_20 (v := nI 0) rfl ?_
    refine wp_iconst d_Rec_kind_21 (v := nI 5) rfl ?_
    refine wl_callS3 d_Rec_kind_22 lc_Rec_within ls_Rec_96 rfl ⟨rfl, rfl⟩ ⟨by decide, by decide⟩ ?_
    refine s_Rec_within (d := d + 2) rfl ?_
    obtain ⟨v2, M3, e4, h⟩ := ob2_some h
    refine wl_callS5 d_Rec_kind_25 lc_Rec_tell ls_Rec_233 rfl ⟨rfl, rfl⟩ ⟨by decide, by decide⟩ ?_
    refine s_Rec_tell (d := d) (isR_row isTd_28) e4 ?_
    cases h
    exact wp_iret d_Rec_kind_28 rfl rfl rfl hq
  refine wp_iload_n d_Rec_kind_9 rfl rfl ?_
  refine wp_iconst d_Rec_kind_10 (v := (-1)) rfl ?_
  refine wq_icmp_ne 18 d_Rec_kind_11 rfl (fun h11 => ?_) (fun h11 => ?_)
  · refine wp_iconst d_Rec_kind_18 (v := nI 0) rfl ?_
    exact wj_f h11 (k1)
  · refine wp_iconst d_Rec_kind_14 (v := nI 1) rfl ?_
    refine wp_goto 19 d_Rec_kind_15 rfl ?_
    exact wj_t h11 (k1)
end S146
