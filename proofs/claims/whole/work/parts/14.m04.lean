/-! methods as functions: printed by program -/
section S144
variable {X : mXs} {d z : Nat} {Q : Option Value → mH → Prop}
def L_Reader_single_1 (z : Nat) (rc : Int32 → mM → Option (Bool × mM)) : Nat → Int32 → mM → Option (Int32 × mM)
  | 0, _, _ => none
  | n + 1, now_, M =>
    ob1 (if now_ < (nI 8) then ob1 (F_Reader_isWord (nI 6) (nI 6) M) fun v14 =>
    some (v14)
    else some (false)) fun x3 =>
    if x3 = true then
    ob2 (F_Reader_step M) fun v9 M10 =>
    L_Reader_single_1 z rc n (now_ + nI 1) M10
    else
    some (now_, M)
def F_Reader_single (z : Nat) (rc : Int32 → mM → Option (Bool × mM)) (open_ : Int32) (M : mM) : Option (Bool × mM) :=
  ob2 (L_Reader_single_1 z rc z open_ M) fun now_16 M17 =>
  ob1 (F_Reader_isSign (nI 40) M17) fun v18 =>
  ob1 (if ¬ (now_16 < (nI 8)) then if v18 = true then some (true)
  else ob1 (F_Reader_isWord (nI 6) (nI 6) M17) fun v580 =>
  some (v580)
  else some (false)) fun x20 =>
  if x20 = true then
  ob2 (F_Reader_fail (nI 3) M17) fun v26 M27 =>
  some (v26, M27)
  else
  jn (fun (M300 : mM) =>
  ob2 (if (jrem (now_16 - open_) (nI 2)) = (nI 0) then some (true, M300)
  else ob2 (F_Reader_emit (nI 11008) M300) fun v309 M310 =>
  some (v309, M310)) fun x306 M308 =>
  some (x306, M308)) fun kj301 =>
  if v18 = true then
  ob2 (F_Reader_step M17) fun v520 M521 =>
  ob2 (ob2 (ob2 (ob2 (rc (now_16 + (nI 1)) M521) fun v577 M578 =>
  some (v577, M578)) fun x574 M576 => some (!x574, M576)) fun x555 M557 =>
  if x555 = true then some (true, M557)
  else ob2 (ob2 (F_Reader_takeSign (nI 41) M557) fun v571 M572 =>
  some (v571, M572)) fun x568 M570 => some (!x568, M570)) fun x523 M525 =>
  if x523 = true then
  some (false, M525)
  else
  kj301 M525
  else
  ob2 (ob2 (ob2 (F_Reader_expression z M17) fun v517 M518 =>
  some (v517, M518)) fun x514 M516 => some (!x514, M516)) fun x312 M314 =>
  if x312 = true then
  some (false, M314)
  else
  ob1 (ob1 (ob1 (F_Reader_isSign (nI 60) M314) fun v512 =>
  some (v512)) fun x435 =>
  if x435 = true then
  some (nI 11003)
  else
  ob1 (ob1 (ob1 (F_Reader_isSign (nI 61) M314) fun v510 =>
  some (v510)) fun x479 =>
  if x479 = true then
  some (nI 11004)
  else
  ob1 (ob1 (ob1 (F_Reader_isSign (nI 62) M314) fun v508 =>
  some (v508)) fun x500 =>
  if x500 = true then
  some (nI 11005)
  else
  some ((-1))) fun v498 =>
  some (v498)) fun v477 =>
  some (v477)) fun v405 =>
  if v405 = (-1) then
  ob2 (F_Reader_fail (nI 1) M314) fun v432 M433 =>
  some (v432, M433)
  else
  ob2 (F_Reader_step M314) fun v407 M408 =>
  ob2 (ob2 (ob2 (F_Reader_expression z M408) fun v429 M430 =>
  some (v429, M430)) fun x426 M428 => some (!x426, M428)) fun x410 M412 =>
  if x410 = true then
  some (false, M412)
  else
  ob2 (F_Reader_emit v405 M412) fun v423 M424 =>
  kj301 M424
theorem l_Reader_single_1 {rc : Int32 → mM → Option (Bool × mM)} (hrc : ∀ {a : Int32} {M : mM} {r : Bool} {M' : mM} {Q : Option Value → mH → Prop}, rc a M = some (r, M') → Q (some (.int (bI r))) (lay M') → Sp X (d + 2) f_Reader_condition [.ref 100, .int a] (lay M) Q)  {q1 : Value} {now_r : Int32} {N' : mM} (K : ∀ u3 u4 : Value, wp X (d + 3) f_Reader_single (0, 0) 30 [.ref 100, q1, .int now_r, u3, u4] [] (lay N') Q) : ∀ (n : Nat) (now_ : Int32) (M : mM) (u3 u4 : Value), L_Reader_single_1 z rc n now_ M = some (now_r, N') → wp X (d + 3) f_Reader_single (0, 0) 2 [.ref 100, q1, .int now_, u3, u4] [] (lay M) Q := by
  intro n
  induction n with
  | zero => intro now_ M u3 u4 h; exact nn h
  | succ n ih =>
    intro now_ M u3 u4 h
    obtain ⟨x3, e4, h⟩ := ob1_some h
    have k7 : ∀ u3 u4 : Value, x3 = true → wp X (d + 3) f_Reader_single (0, 0) 19 [.ref 100, q1, .int now_, u3, u4] [] (lay M) Q := by
      intro u3 u4 x8
      replace h := ip h x8
      refine wp_aload_n d_Reader_single_19 rfl rfl ?_
      obtain ⟨v9, M10, e11, h⟩ := ob2_some h
      refine wl_callV0 d_Reader_single_20 lc_Reader_step lv_Reader_140 rfl sh_100 rfl rfl ⟨rfl, rfl⟩ ⟨by decide, by decide⟩ ?_
      refine s_Reader_step (d := d + 2) e11 ?_
      refine wp_pop d_Reader_single_23 rfl ?_
      refine wp_iinc d_Reader_single_24 (v := now_ + nI 1) rfl rfl ?_
      refine wp_goto 2 d_Reader_single_27 rfl ?_
      exact ih _ _ _ _ h
    have k12 : ∀ u3 u4 : Value, ¬ x3 = true → wp X (d + 3) f_Reader_single (0, 0) 30 [.ref 100, q1, .int now_, u3, u4] [] (lay M) Q := by
      intro u3 u4 x13
      replace h := inn h x13
      cases h
      exact K _ _
    refine wp_iload_n d_Reader_single_2 rfl rfl ?_
    refine wp_bipush d_Reader_single_3 (v := nI 8) rfl ?_
    refine wq_icmp_ge 30 d_Reader_single_5 rfl (fun h5 => ?_) (fun h5 => ?_)
    · replace e4 := inn e4 h5
      cases e4
      exact k12 _ _ (fun z => Bool.noConfusion z)
    · replace e4 := ip e4 h5
      refine wp_aload_n d_Reader_single_8 rfl rfl ?_
      refine wp_bipush d_Reader_single_9 (v := nI 6) rfl ?_
      refine wp_bipush d_Reader_single_11 (v := nI 6) rfl ?_
      obtain ⟨v14, e15, e4⟩ := ob1_some e4
      refine wl_callV2 d_Reader_single_13 lc_Reader_isWord lv_Reader_120 rfl sh_100 rfl rfl ⟨rfl, rfl⟩ ⟨by decide, by decide⟩ ?_
      refine s_Reader_isWord (d := d + 2) e15 ?_
      refine wc_eq 30 d_Reader_single_16 rfl (fun h16 => ?_) (fun h16 => ?_)
      · cases e4
        exact k12 _ _ h16
      · cases e4
        exact k7 _ _ h16
theorem s_Reader_single {open_ : Int32} {M : mM} {r : Bool} {M' : mM} {rc : Int32 → mM → Option (Bool × mM)} (hrc : ∀ {a : Int32} {M : mM} {r : Bool} {M' : mM} {Q : Option Value → mH → Prop}, rc a M = some (r, M') → Q (some (.int (bI r))) (lay M') → Sp X (d + 2) f_Reader_condition [.ref 100, .int a] (lay M) Q) (h : F_Reader_single z rc open_ M = some (r, M')) (hq : Q (some (.int (bI r))) (lay M')) : Sp X (d + 3) f_Reader_single [.ref 100, .int open_] (lay M) Q := by
  refine Sp_of (by decide) rfl (Nat.le_of_ble_eq_true rfl) ?_
  refine wp_iload_n d_Reader_single_0 rfl rfl ?_
  refine wp_istore_n d_Reader_single_1 rfl (by decide) ?_
  obtain ⟨now_16, M17, e582, h⟩ := ob2_some h
  refine l_Reader_single_1 hrc ?_ _ _ _ _ _ e582
  intro u3 u4
  refine wp_aload_n d_Reader_single_30 rfl rfl ?_
  refine wp_bipush d_Reader_single_31 (v := nI 40) rfl ?_
  obtain ⟨v18, e19, h⟩ := ob1_some h
  refine wl_callV1 d_Reader_single_33 lc_Reader_isSign lv_Reader_136 rfl sh_100 rfl rfl ⟨rfl, rfl⟩ ⟨by decide, by decide⟩ ?_
  refine s_Reader_isSign (d := d + 2) e19 ?_
  refine wp_istore_n d_Reader_single_36 rfl (by decide) ?_
  obtain ⟨x20, e21, h⟩ := ob1_some h
  have k24 : ∀ u4 : Value, x20 = true → wp X (d + 3) f_Reader_single (0, 0) 58 [.ref 100, .int open_, .int now_16, .int (bI v18), u4] [] (lay M17) Q := by
    intro u4 x25
    replace h := ip h x25
    refine wp_aload_n d_Reader_single_58 rfl rfl ?_
    refine wp_iconst d_Reader_single_59 (v := nI 3) rfl ?_
    obtain ⟨v26, M27, e28, h⟩ := ob2_some h
    refine wl_callV1 d_Reader_single_60 lc_Reader_fail lv_Reader_127 rfl sh_100 rfl rfl ⟨rfl, rfl⟩ ⟨by decide, by decide⟩ ?_
    refine s_Reader_fail (d := d + 2) e28 ?_
    cases h
    exact wb_iret d_Reader_single_63 rfl rfl hq
  have k29 : ∀ u4 : Value, ¬ x20 = true → wp X (d + 3) f_Reader_single (0, 0) 64 [.ref 100, .int open_, .int now_16, .int (bI v18), u4] [] (lay M17) Q := by
    intro u4 x30
    replace h := inn h x30
    have k299 : ∀ (M300 : mM) (u4 : Value), (fun (M300 : mM) =>
      ob2 (if (jrem (now_16 - open_) (nI 2)) = (nI 0) then some (true, M300)
      else ob2 (F_Reader_emit (nI 11008) M300) fun v309 M310 =>
      some (v309, M310)) fun x306 M308 =>
      some (x306, M308)) M300 = some (r, M') → wp X (d + 3) f_Reader_single (0, 0) 184 [.ref 100, .int open_, .int now_16, .int (bI v18), u4] [] (lay M300) Q := by
      intro M300 u4 h
      obtain ⟨x306, M308, e307, h⟩ := ob2_some h
      have k305 : ∀ u4 : Value, wp X (d + 3) f_Reader_single (0, 0) 207 [.ref 100, .int open_, .int now_16, .int (bI v18), u4] [.int (bI x306)] (lay M308) Q := by
        intro u4
        cases h
        exact wb_iret d_Reader_single_207 rfl rfl hq
      refine wp_iload_n d_Reader_single_184 rfl rfl ?_
      refine wp_iload_n d_Reader_single_185 rfl rfl ?_
      refine wp_isub d_Reader_single_186 ?_
      refine wp_iconst d_Reader_single_187 (v := nI 2) rfl ?_
      refine wp_irem d_Reader_single_188 (by decide) ?_
      refine wz_eq 202 d_Reader_single_189 rfl (fun h189 => ?_) (fun h189 => ?_)
      · replace e307 := ip e307 h189
        cases e307
        refine wp_iconst d_Reader_single_202 (v := nI 1) rfl ?_
        refine wp_goto 207 d_Reader_single_203 rfl ?_
        exact wj_b1 rfl (k305 _)
      · replace e307 := inn e307 h189
        refine wp_aload_n d_Reader_single_192 rfl rfl ?_
        refine wp_sipush d_Reader_single_193 (v := nI 11008) rfl ?_
        obtain ⟨v309, M310, e311, e307⟩ := ob2_some e307
        refine wl_callV1 d_Reader_single_196 lc_Reader_emit lv_Reader_163 rfl sh_100 rfl rfl ⟨rfl, rfl⟩ ⟨by decide, by decide⟩ ?_
        refine s_Reader_emit (d := d + 2) e311 ?_
        refine wc_eq 206 d_Reader_single_199 rfl (fun h199 => ?_) (fun h199 => ?_)
        · cases e307
          refine wp_iconst d_Reader_single_206 (v := nI 0) rfl ?_
          exact wj_b0 h199 (k305 _)
        · cases e307
          refine wp_iconst d_Reader_single_202 (v := nI 1) rfl ?_
          refine wp_goto 207 d_Reader_single_203 rfl ?_
          exact wj_b1 h199 (k305 _)
    refine wp_iload_n d_Reader_single_64 rfl rfl ?_
    refine wc_eq 94 d_Reader_single_65 rfl (fun h65 => ?_) (fun h65 => ?_)
    · replace h := inn h h65
      obtain ⟨x312, M314, e313, h⟩ := ob2_some h
      have k321 : ∀ u4 : Value, x312 = true → wp X (d + 3) f_Reader_single (0, 0) 101 [.ref 100, .int open_, .int now_16, .int (bI v18), u4] [] (lay M314) Q := by
        intro u4 x322
        replace h := ip h x322
        refine wp_iconst d_Reader_single_101 (v := bI false) rfl ?_
        cases h
        exact wb_iret d_Reader_single_102 rfl rfl hq
      have k323 : ∀ u4 : Value, ¬ x312 = true → wp X (d + 3) f_Reader_single (0, 0) 103 [.ref 100, .int open_, .int now_16, .int (bI v18), u4] [] (lay M314) Q := by
        intro u4 x324
        replace h := inn h x324
        obtain ⟨v405, e406, h⟩ := ob1_some h
        have k404 : ∀ u4 : Value, wp X (d + 3) f_Reader_single (0, 0) 149 [.ref 100, .int open_, .int now_16, .int (bI v18), u4] [.int v405] (lay M314) Q := by
          intro u4
          refine wp_istore d_Reader_single_149 (by decide) ?_
          refine wp_iload d_Reader_single_151 rfl ?_
          refine wp_iconst d_Reader_single_153 (v := (-1)) rfl ?_
          refine wq_icmp_ne 163 d_Reader_single_154 rfl (fun h154 => ?_) (fun h154 => ?_)
          · replace h := inn h h154
            refine wp_aload_n d_Reader_single_163 rfl rfl ?_
            obtain ⟨v407, M408, e409, h⟩ := ob2_some h
            refine wl_callV0 d_Reader_single_164 lc_Reader_step lv_Reader_140 rfl sh_100 rfl rfl ⟨rfl, rfl⟩ ⟨by decide, by decide⟩ ?_
            refine s_Reader_step (d := d + 2) e409 ?_
            refine wp_pop d_Reader_single_167 rfl ?_
            obtain ⟨x410, M412, e411, h⟩ := ob2_some h
            have k419 : x410 = true → wp X (d + 3) f_Reader_single (0, 0) 175 [.ref 100, .int open_, .int now_16, .int (bI v18), .int v405] [] (lay M412) Q := by
              intro x420
              replace h := ip h x420
              refine wp_iconst d_Reader_single_175 (v := bI false) rfl ?_
              cases h
              exact wb_iret d_Reader_single_176 rfl rfl hq
            have k421 : ¬ x410 = true → wp X (d + 3) f_Reader_single (0, 0) 177 [.ref 100, .int open_, .int now_16, .int (bI v18), .int v405] [] (lay M412) Q := by
              intro x422
              replace h := inn h x422
              refine wp_aload_n d_Reader_single_177 rfl rfl ?_
              refine wp_iload d_Reader_single_178 rfl ?_
              obtain ⟨v423, M424, e425, h⟩ := ob2_some h
              refine wl_callV1 d_Reader_single_180 lc_Reader_emit lv_Reader_163 rfl sh_100 rfl rfl ⟨rfl, rfl⟩ ⟨by decide, by decide⟩ ?_
              refine s_Reader_emit (d := d + 2) e425 ?_
              refine wp_pop d_Reader_single_183 rfl ?_
              exact k299 _ _ h
            obtain ⟨x426, M428, e427, e411⟩ := ob2_some e411
            cases e411
            refine wp_aload_n d_Reader_single_168 rfl rfl ?_
            obtain ⟨v429, M430, e431, e427⟩ := ob2_some e427
            refine wl_callV0 d_Reader_single_169 lc_Reader_expression lv_Reader_152 rfl sh_100 rfl rfl ⟨rfl, rfl⟩ ⟨by decide, by decide⟩ ?_
            refine s_Reader_expression (d := d) e431 ?_
            refine wc_ne 177 d_Reader_single_172 rfl (fun h172 => ?_) (fun h172 => ?_)
            · cases e427
              exact k421 (nb_t h172)
            · cases e427
              exact k419 (nb_f h172)
          · replace h := ip h h154
            refine wp_aload_n d_Reader_single_157 rfl rfl ?_
            refine wp_iconst d_Reader_single_158 (v := nI 1) rfl ?_
            obtain ⟨v432, M433, e434, h⟩ := ob2_some h
            refine wl_callV1 d_Reader_single_159 lc_Reader_fail lv_Reader_127 rfl sh_100 rfl rfl ⟨rfl, rfl⟩ ⟨by decide, by decide⟩ ?_
            refine s_Reader_fail (d := d + 2) e434 ?_
            cases h
            exact wb_iret d_Reader_single_162 rfl rfl hq
        obtain ⟨x435, e436, e406⟩ := ob1_some e406
        have k439 : ∀ u4 : Value, x435 = true → wp X (d + 3) f_Reader_single (0, 0) 112 [.ref 100, .int open_, .int now_16, .int (bI v18), u4] [] (lay M314) Q := by
          intro u4 x440
          replace e406 := ip e406 x440
          refine wp_sipush d_Reader_single_112 (v := nI 11003) rfl ?_
          cases e406
          refine wp_goto 149 d_Reader_single_115 rfl ?_
          exact k404 _
        have k441 : ∀ u4 : Value, ¬ x435 = true → wp X (d + 3) f_Reader_single (0, 0) 118 [.ref 100, .int open_, .int now_16, .int (bI v18), u4] [] (lay M314) Q := by
          intro u4 x442
          replace e406 := inn e406 x442
          obtain ⟨v477, e478, e406⟩ := ob1_some e406
          have k476 : ∀ u4 : Value, wp X (d + 3) f_Reader_single (0, 0) 149 [.ref 100, .int open_, .int now_16, .int (bI v18), u4] [.int v477] (lay M314) Q := by
            intro u4
            cases e406
            exact k404 _
          obtain ⟨x479, e480, e478⟩ := ob1_some e478
          have k483 : ∀ u4 : Value, x479 = true → wp X (d + 3) f_Reader_single (0, 0) 127 [.ref 100, .int open_, .int now_16, .int (bI v18), u4] [] (lay M314) Q := by
            intro u4 x484
            replace e478 := ip e478 x484
            refine wp_sipush d_Reader_single_127 (v := nI 11004) rfl ?_
            cases e478
            refine wp_goto 149 d_Reader_single_130 rfl ?_
            exact k476 _
          have k485 : ∀ u4 : Value, ¬ x479 = true → wp X (d + 3) f_Reader_single (0, 0) 133 [.ref 100, .int open_, .int now_16, .int (bI v18), u4] [] (lay M314) Q := by
            intro u4 x486
            replace e478 := inn e478 x486
            obtain ⟨v498, e499, e478⟩ := ob1_some e478
            have k497 : ∀ u4 : Value, wp X (d + 3) f_Reader_single (0, 0) 149 [.ref 100, .int open_, .int now_16, .int (bI v18), u4] [.int v498] (lay M314) Q := by
              intro u4
              cases e478
              exact k476 _
            obtain ⟨x500, e501, e499⟩ := ob1_some e499
            have k504 : ∀ u4 : Value, x500 = true → wp X (d + 3) f_Reader_single (0, 0) 142 [.ref 100, .int open_, .int now_16, .int (bI v18), u4] [] (lay M314) Q := by
              intro u4 x505
              replace e499 := ip e499 x505
              refine wp_sipush d_Reader_single_142 (v := nI 11005) rfl ?_
              cases e499
              refine wp_goto 149 d_Reader_single_145 rfl ?_
              exact k497 _
            have k506 : ∀ u4 : Value, ¬ x500 = true → wp X (d + 3) f_Reader_single (0, 0) 148 [.ref 100, .int open_, .int now_16, .int (bI v18), u4] [] (lay M314) Q := by
              intro u4 x507
              replace e499 := inn e499 x507
              refine wp_iconst d_Reader_single_148 (v := (-1)) rfl ?_
              cases e499
              exact k497 _
            refine wp_aload_n d_Reader_single_133 rfl rfl ?_
            refine wp_bipush d_Reader_single_134 (v := nI 62) rfl ?_
            obtain ⟨v508, e509, e501⟩ := ob1_some e501
            refine wl_callV1 d_Reader_single_136 lc_Reader_isSign lv_Reader_136 rfl sh_100 rfl rfl ⟨rfl, rfl⟩ ⟨by decide, by decide⟩ ?_
            refine s_Reader_isSign (d := d + 2) e509 ?_
            refine wc_eq 148 d_Reader_single_139 rfl (fun h139 => ?_) (fun h139 => ?_)
            · cases e501
              exact k506 _ h139
            · cases e501
              exact k504 _ h139
          refine wp_aload_n d_Reader_single_118 rfl rfl ?_
          refine wp_bipush d_Reader_single_119 (v := nI 61) rfl ?_
          obtain ⟨v510, e511, e480⟩ := ob1_some e480
          refine wl_callV1 d_Reader_single_121 lc_Reader_isSign lv_Reader_136 rfl sh_100 rfl rfl ⟨rfl, rfl⟩ ⟨by decide, by decide⟩ ?_
          refine s_Reader_isSign (d := d + 2) e511 ?_
          refine wc_eq 133 d_Reader_single_124 rfl (fun h124 => ?_) (fun h124 => ?_)
          · cases e480
            exact k485 _ h124
          · cases e480
            exact k483 _ h124
        refine wp_aload_n d_Reader_single_103 rfl rfl ?_
        refine wp_bipush d_Reader_single_104 (v := nI 60) rfl ?_
        obtain ⟨v512, e513, e436⟩ := ob1_some e436
        refine wl_callV1 d_Reader_single_106 lc_Reader_isSign lv_Reader_136 rfl sh_100 rfl rfl ⟨rfl, rfl⟩ ⟨by decide, by decide⟩ ?_
        refine s_Reader_isSign (d := d + 2) e513 ?_
        refine wc_eq 118 d_Reader_single_109 rfl (fun h109 => ?_) (fun h109 => ?_)
        · cases e436
          exact k441 _ h109
        · cases e436
          exact k439 _ h109
      obtain ⟨x514, M516, e515, e313⟩ := ob2_some e313
      cases e313
      refine wp_aload_n d_Reader_single_94 rfl rfl ?_
      obtain ⟨v517, M518, e519, e515⟩ := ob2_some e515
      refine wl_callV0 d_Reader_single_95 lc_Reader_expression lv_Reader_152 rfl sh_100 rfl rfl ⟨rfl, rfl⟩ ⟨by decide, by decide⟩ ?_
      refine s_Reader_expression (d := d) e519 ?_
      refine wc_ne 103 d_Reader_single_98 rfl (fun h98 => ?_) (fun h98 => ?_)
      · cases e515
        exact k323 _ (nb_t h98)
      · cases e515
        exact k321 _ (nb_f h98)
    · replace h := ip h h65
      refine wp_aload_n d_Reader_single_68 rfl rfl ?_
      obtain ⟨v520, M521, e522, h⟩ := ob2_some h
      refine wl_callV0 d_Reader_single_69 lc_Reader_step lv_Reader_140 rfl sh_100 rfl rfl ⟨rfl, rfl⟩ ⟨by decide, by decide⟩ ?_
      refine s_Reader_step (d := d + 2) e522 ?_
      refine wp_pop d_Reader_single_72 rfl ?_
      obtain ⟨x523, M525, e524, h⟩ := ob2_some h
      have k551 : ∀ u4 : Value, x523 = true → wp X (d + 3) f_Reader_single (0, 0) 92 [.ref 100, .int open_, .int now_16, .int (bI v18), u4] [] (lay M525) Q := by
        intro u4 x552
        replace h := ip h x552
        refine wp_iconst d_Reader_single_92 (v := bI false) rfl ?_
        cases h
        exact wb_iret d_Reader_single_93 rfl rfl hq
      have k553 : ∀ u4 : Value, ¬ x523 = true → wp X (d + 3) f_Reader_single (0, 0) 184 [.ref 100, .int open_, .int now_16, .int (bI v18), u4] [] (lay M525) Q := by
        intro u4 x554
        replace h := inn h x554
        exact k299 _ _ h
      obtain ⟨x555, M557, e556, e524⟩ := ob2_some e524
      have k564 : ∀ u4 : Value, x555 = true → wp X (d + 3) f_Reader_single (0, 0) 92 [.ref 100, .int open_, .int now_16, .int (bI v18), u4] [] (lay M557) Q := by
        intro u4 x565
        replace e524 := ip e524 x565
        cases e524
        exact k551 _ rfl
      have k566 : ∀ u4 : Value, ¬ x555 = true → wp X (d + 3) f_Reader_single (0, 0) 83 [.ref 100, .int open_, .int now_16, .int (bI v18), u4] [] (lay M557) Q := by
        intro u4 x567
        replace e524 := inn e524 x567
        obtain ⟨x568, M570, e569, e524⟩ := ob2_some e524
        cases e524
        refine wp_aload_n d_Reader_single_83 rfl rfl ?_
        refine wp_bipush d_Reader_single_84 (v := nI 41) rfl ?_
        obtain ⟨v571, M572, e573, e569⟩ := ob2_some e569
        refine wl_callV1 d_Reader_single_86 lc_Reader_takeSign lv_Reader_149 rfl sh_100 rfl rfl ⟨rfl, rfl⟩ ⟨by decide, by decide⟩ ?_
        refine s_Reader_takeSign (d := d + 1) e573 ?_
        refine wc_ne 184 d_Reader_single_89 rfl (fun h89 => ?_) (fun h89 => ?_)
        · cases e569
          exact k553 _ (nb_t h89)
        · cases e569
          exact k551 _ (nb_f h89)
      obtain ⟨x574, M576, e575, e556⟩ := ob2_some e556
      cases e556
      refine wp_aload_n d_Reader_single_73 rfl rfl ?_
      refine wp_iload_n d_Reader_single_74 rfl rfl ?_
      refine wp_iconst d_Reader_single_75 (v := nI 1) rfl ?_
      refine wp_iadd d_Reader_single_76 ?_
      obtain ⟨v577, M578, e579, e575⟩ := ob2_some e575
      refine wl_callV1 d_Reader_single_77 lc_Reader_condition lv_Reader_155 rfl sh_100 rfl rfl ⟨rfl, rfl⟩ ⟨by decide, by decide⟩ ?_
      refine hrc e579 ?_
      refine wc_eq 92 d_Reader_single_80 rfl (fun h80 => ?_) (fun h80 => ?_)
      · cases e575
        exact k564 _ (nb_f h80)
      · cases e575
        exact k566 _ (nb_t h80)
  refine wp_iload_n d_Reader_single_37 rfl rfl ?_
  refine wp_bipush d_Reader_single_38 (v := nI 8) rfl ?_
  refine wq_icmp_lt 64 d_Reader_single_40 rfl (fun h40 => ?_) (fun h40 => ?_)
  · replace e21 := inn e21 (fun z => z h40)
    cases e21
    exact k29 _ (fun z => Bool.noConfusion z)
  · replace e21 := ip e21 h40
    refine wp_iload_n d_Reader_single_43 rfl rfl ?_
    refine wc_ne 58 d_Reader_single_44 rfl (fun h44 => ?_) (fun h44 => ?_)
    · replace e21 := ip e21 h44
      cases e21
      exact k24 _ rfl
    · replace e21 := inn e21 h44
      refine wp_aload_n d_Reader_single_47 rfl rfl ?_
      refine wp_bipush d_Reader_single_48 (v := nI 6) rfl ?_
      refine wp_bipush d_Reader_single_50 (v := nI 6) rfl ?_
      obtain ⟨v580, e581, e21⟩ := ob1_some e21
      refine wl_callV2 d_Reader_single_52 lc_Reader_isWord lv_Reader_120 rfl sh_100 rfl rfl ⟨rfl, rfl⟩ ⟨by decide, by decide⟩ ?_
      refine s_Reader_isWord (d := d + 2) e581 ?_
      refine wc_eq 64 d_Reader_single_55 rfl (fun h55 => ?_) (fun h55 => ?_)
      · cases e21
        exact k29 _ h55
      · cases e21
        exact k24 _ h55
def L_Reader_condition_2 (z : Nat) (rc : Int32 → mM → Option (Bool × mM)) (open_ : Int32) (kt : mM → Option (Bool × mM)) : Nat → Int32 → mM → Option (Bool × mM)
  | 0, _, _ => none
  | n + 1, m_, M =>
    ob1 (if m_ < (nI 400) then ob1 (F_Reader_isWord (nI 5) (nI 5) M) fun v49 =>
    some (v49)
    else some (false)) fun x16 =>
    if x16 = true then
    ob2 (F_Reader_step M) fun v22 M23 =>
    ob2 (ob2 (ob2 (F_Reader_single z rc open_ M23) fun v44 M45 =>
    some (v44, M45)) fun x41 M43 => some (!x41, M43)) fun x25 M27 =>
    if x25 = true then
    some (false, M27)
    else
    ob2 (F_Reader_emit (nI 11006) M27) fun v38 M39 =>
    L_Reader_condition_2 z rc open_ kt n (m_ + nI 1) M39
    else
    kt M
def L_Reader_condition_1 (z : Nat) (rc : Int32 → mM → Option (Bool × mM)) (open_ : Int32) (kt : Int32 → mM → Option (Bool × mM)) : Nat → Int32 → Int32 → mM → Option (Bool × mM)
  | 0, _, _, _ => none
  | n + 1, ors_, n_, M =>
    if n_ < (nI 400) then
    ob2 (ob2 (ob2 (F_Reader_single z rc open_ M) fun v81 M82 =>
    some (v81, M82)) fun x78 M80 => some (!x78, M80)) fun x1 M3 =>
    if x1 = true then
    some (false, M3)
    else
    L_Reader_condition_2 z rc open_ (fun (M51 : mM) =>
    ob1 (if (nI 0) < ors_ then
    ob2 (F_Reader_emit (nI 11007) M51) fun v75 M76 =>
    some (M76)
    else
    some (M51)) fun M56 =>
    ob1 (ob1 (ob1 (F_Reader_isWord (nI 4) (nI 4) M56) fun v73 =>
    some (v73)) fun x71 => some (!x71)) fun x58 =>
    if x58 = true then
    some (true, M56)
    else
    ob2 (F_Reader_step M56) fun v68 M69 =>
    L_Reader_condition_1 z rc open_ kt n (ors_ + nI 1) (n_ + nI 1) M69) z (nI 0) M3
    else
    kt ors_ M
def B_Reader_condition (z : Nat) (rc : Int32 → mM → Option (Bool × mM)) (open_ : Int32) (M : mM) : Option (Bool × mM) :=
  L_Reader_condition_1 z rc open_ (fun (ors_84 : Int32) (M85 : mM) =>
  some (false, M85)) z (nI 0) (nI 0) M
def F_Reader_condition (z : Nat) : Nat → Int32 → mM → Option (Bool × mM)
  | 0, _, _ => none
  | y + 1, open_, M => B_Reader_condition z (F_Reader_condition z y) open_ M
theorem l_Reader_condition_2 {open_ : Int32} {kt : mM → Option (Bool × mM)} {rc : Int32 → mM → Option (Bool × mM)} (hrc : ∀ {a : Int32} {M : mM} {r : Bool} {M' : mM} {Q : Option Value → mH → Prop}, rc a M = some (r, M') → Q (some (.int (bI r))) (lay M') → Sp X (d + 2) f_Reader_condition [.ref 100, .int a] (lay M) Q)  {q2 : Value} {q3 : Value} {r : Bool} {M' : mM} (hq : Q (some (.int (bI r))) (lay M')) (K : ∀ (N1 : mM) (u4 : Value), kt  N1 = some (r, M') → wp X (d + 4) f_Reader_condition (0, 0) 70 [.ref 100, .int open_, q2, q3, u4] [] (lay N1) Q) : ∀ (n : Nat) (m_ : Int32) (M : mM), L_Reader_condition_2 z rc open_ kt n m_ M = some (r, M') → wp X (d + 4) f_Reader_condition (0, 0) 24 [.ref 100, .int open_, q2, q3, .int m_] [] (lay M) Q := by
  intro n
  induction n with
  | zero => intro m_ M h; exact nn h
  | succ n ih =>
    intro m_ M h
    obtain ⟨x16, e17, h⟩ := ob1_some h
    have k20 : x16 = true → wp X (d + 4) f_Reader_condition (0, 0) 41 [.ref 100, .int open_, q2, q3, .int m_] [] (lay M) Q := by
      intro x21
      replace h := ip h x21
      refine wp_aload_n d_Reader_condition_41 rfl rfl ?_
      obtain ⟨v22, M23, e24, h⟩ := ob2_some h
      refine wl_callV0 d_Reader_condition_42 lc_Reader_step lv_Reader_140 rfl sh_100 rfl rfl ⟨rfl, rfl⟩ ⟨by decide, by decide⟩ ?_
      refine s_Reader_step (d := d + 3) e24 ?_
      refine wp_pop d_Reader_condition_45 rfl ?_
      obtain ⟨x25, M27, e26, h⟩ := ob2_some h
      have k34 : x25 = true → wp X (d + 4) f_Reader_condition (0, 0) 54 [.ref 100, .int open_, q2, q3, .int m_] [] (lay M27) Q := by
        intro x35
        replace h := ip h x35
        refine wp_iconst d_Reader_condition_54 (v := bI false) rfl ?_
        cases h
        exact wb_iret d_Reader_condition_55 rfl rfl hq
      have k36 : ¬ x25 = true → wp X (d + 4) f_Reader_condition (0, 0) 56 [.ref 100, .int open_, q2, q3, .int m_] [] (lay M27) Q := by
        intro x37
        replace h := inn h x37
        refine wp_aload_n d_Reader_condition_56 rfl rfl ?_
        refine wp_sipush d_Reader_condition_57 (v := nI 11006) rfl ?_
        obtain ⟨v38, M39, e40, h⟩ := ob2_some h
        refine wl_callV1 d_Reader_condition_60 lc_Reader_emit lv_Reader_163 rfl sh_100 rfl rfl ⟨rfl, rfl⟩ ⟨by decide, by decide⟩ ?_
        refine s_Reader_emit (d := d + 3) e40 ?_
        refine wp_pop d_Reader_condition_63 rfl ?_
        refine wp_iinc d_Reader_condition_64 (v := m_ + nI 1) rfl rfl ?_
        refine wp_goto 24 d_Reader_condition_67 rfl ?_
        exact ih _ _ h
      obtain ⟨x41, M43, e42, e26⟩ := ob2_some e26
      cases e26
      refine wp_aload_n d_Reader_condition_46 rfl rfl ?_
      refine wp_iload_n d_Reader_condition_47 rfl rfl ?_
      obtain ⟨v44, M45, e46, e42⟩ := ob2_some e42
      refine wl_callV1 d_Reader_condition_48 lc_Reader_single lv_Reader_158 rfl sh_100 rfl rfl ⟨rfl, rfl⟩ ⟨by decide, by decide⟩ ?_
      refine s_Reader_single (d := d) hrc e46 ?_
      refine wc_ne 56 d_Reader_condition_51 rfl (fun h51 => ?_) (fun h51 => ?_)
      · cases e42
        exact k36 (nb_t h51)
      · cases e42
        exact k34 (nb_f h51)
    have k47 : ¬ x16 = true → wp X (d + 4) f_Reader_condition (0, 0) 70 [.ref 100, .int open_, q2, q3, .int m_] [] (lay M) Q := by
      intro x48
      replace h := inn h x48
      exact K _ _ h
    refine wp_iload d_Reader_condition_24 rfl ?_
    refine wp_sipush d_Reader_condition_26 (v := nI 400) rfl ?_
    refine wq_icmp_ge 70 d_Reader_condition_29 rfl (fun h29 => ?_) (fun h29 => ?_)
    · replace e17 := inn e17 h29
      cases e17
      exact k47 (fun z => Bool.noConfusion z)
    · replace e17 := ip e17 h29
      refine wp_aload_n d_Reader_condition_32 rfl rfl ?_
      refine wp_iconst d_Reader_condition_33 (v := nI 5) rfl ?_
      refine wp_iconst d_Reader_condition_34 (v := nI 5) rfl ?_
      obtain ⟨v49, e50, e17⟩ := ob1_some e17
      refine wl_callV2 d_Reader_condition_35 lc_Reader_isWord lv_Reader_120 rfl sh_100 rfl rfl ⟨rfl, rfl⟩ ⟨by decide, by decide⟩ ?_
      refine s_Reader_isWord (d := d + 3) e50 ?_
      refine wc_eq 70 d_Reader_condition_38 rfl (fun h38 => ?_) (fun h38 => ?_)
      · cases e17
        exact k47 h38
      · cases e17
        exact k20 h38
theorem l_Reader_condition_1 {open_ : Int32} {kt : Int32 → mM → Option (Bool × mM)} {rc : Int32 → mM → Option (Bool × mM)} (hrc : ∀ {a : Int32} {M : mM} {r : Bool} {M' : mM} {Q : Option Value → mH → Prop}, rc a M = some (r, M') → Q (some (.int (bI r))) (lay M') → Sp X (d + 2) f_Reader_condition [.ref 100, .int a] (lay M) Q)  {r : Bool} {M' : mM} (hq : Q (some (.int (bI r))) (lay M')) (K : ∀ (ors_r : Int32) (N1 : mM) (u3 u4 : Value), kt ors_r N1 = some (r, M') → wp X (d + 4) f_Reader_condition (0, 0) 107 [.ref 100, .int open_, .int ors_r, u3, u4] [] (lay N1) Q) : ∀ (n : Nat) (ors_ : Int32) (n_ : Int32) (M : mM) (u4 : Value), L_Reader_condition_1 z rc open_ kt n ors_ n_ M = some (r, M') → wp X (d + 4) f_Reader_condition (0, 0) 4 [.ref 100, .int open_, .int ors_, .int n_, u4] [] (lay M) Q := by
  intro n
  induction n with
  | zero => intro ors_ n_ M u4 h; exact nn h
  | succ n ih =>
    intro ors_ n_ M u4 h
    refine wp_iload_n d_Reader_condition_4 rfl rfl ?_
    refine wp_sipush d_Reader_condition_5 (v := nI 400) rfl ?_
    refine wq_icmp_ge 107 d_Reader_condition_8 rfl (fun h8 => ?_) (fun h8 => ?_)
    · replace h := inn h h8
      exact K _ _ _ _ h
    · replace h := ip h h8
      obtain ⟨x1, M3, e2, h⟩ := ob2_some h
      have k10 : ∀ u4 : Value, x1 = true → wp X (d + 4) f_Reader_condition (0, 0) 19 [.ref 100, .int open_, .int ors_, .int n_, u4] [] (lay M3) Q := by
        intro u4 x11
        replace h := ip h x11
        refine wp_iconst d_Reader_condition_19 (v := bI false) rfl ?_
        cases h
        exact wb_iret d_Reader_condition_20 rfl rfl hq
      have k12 : ∀ u4 : Value, ¬ x1 = true → wp X (d + 4) f_Reader_condition (0, 0) 21 [.ref 100, .int open_, .int ors_, .int n_, u4] [] (lay M3) Q := by
        intro u4 x13
        replace h := inn h x13
        refine wp_iconst d_Reader_condition_21 (v := nI 0) rfl ?_
        refine wp_istore d_Reader_condition_22 (by decide) ?_
        refine l_Reader_condition_2 hrc hq ?_ _ _ _ h
        intro M51 u4 h
        obtain ⟨M56, e57, h⟩ := ob1_some h
        have k55 : ∀ u4 : Value, wp X (d + 4) f_Reader_condition (0, 0) 82 [.ref 100, .int open_, .int ors_, .int n_, u4] [] (lay M56) Q := by
          intro u4
          refine wp_iinc d_Reader_condition_82 (v := ors_ + nI 1) rfl rfl ?_
          obtain ⟨x58, e59, h⟩ := ob1_some h
          have k64 : ∀ u4 : Value, x58 = true → wp X (d + 4) f_Reader_condition (0, 0) 94 [.ref 100, .int open_, .int (ors_ + nI 1), .int n_, u4] [] (lay M56) Q := by
            intro u4 x65
            replace h := ip h x65
            refine wp_iconst d_Reader_condition_94 (v := bI true) rfl ?_
            cases h
            exact wb_iret d_Reader_condition_95 rfl rfl hq
          have k66 : ∀ u4 : Value, ¬ x58 = true → wp X (d + 4) f_Reader_condition (0, 0) 96 [.ref 100, .int open_, .int (ors_ + nI 1), .int n_, u4] [] (lay M56) Q := by
            intro u4 x67
            replace h := inn h x67
            refine wp_aload_n d_Reader_condition_96 rfl rfl ?_
            obtain ⟨v68, M69, e70, h⟩ := ob2_some h
            refine wl_callV0 d_Reader_condition_97 lc_Reader_step lv_Reader_140 rfl sh_100 rfl rfl ⟨rfl, rfl⟩ ⟨by decide, by decide⟩ ?_
            refine s_Reader_step (d := d + 3) e70 ?_
            refine wp_pop d_Reader_condition_100 rfl ?_
            refine wp_iinc d_Reader_condition_101 (v := n_ + nI 1) rfl rfl ?_
            refine wp_goto 4 d_Reader_condition_104 rfl ?_
            exact ih _ _ _ _ h
          obtain ⟨x71, e72, e59⟩ := ob1_some e59
          cases e59
          refine wp_aload_n d_Reader_condition_85 rfl rfl ?_
          refine wp_iconst d_Reader_condition_86 (v := nI 4) rfl ?_
          refine wp_iconst d_Reader_condition_87 (v := nI 4) rfl ?_
          obtain ⟨v73, e74, e72⟩ := ob1_some e72
          refine wl_callV2 d_Reader_condition_88 lc_Reader_isWord lv_Reader_120 rfl sh_100 rfl rfl ⟨rfl, rfl⟩ ⟨by decide, by decide⟩ ?_
          refine s_Reader_isWord (d := d + 3) e74 ?_
          refine wc_ne 96 d_Reader_condition_91 rfl (fun h91 => ?_) (fun h91 => ?_)
          · cases e72
            exact k66 _ (nb_t h91)
          · cases e72
            exact k64 _ (nb_f h91)
        refine wp_iload_n d_Reader_condition_70 rfl rfl ?_
        refine wz_le 82 d_Reader_condition_71 rfl (fun h71 => ?_) (fun h71 => ?_)
        · replace e57 := inn e57 h71
          cases e57
          exact k55 _
        · replace e57 := ip e57 h71
          refine wp_aload_n d_Reader_condition_74 rfl rfl ?_
          refine wp_sipush d_Reader_condition_75 (v := nI 11007) rfl ?_
          obtain ⟨v75, M76, e77, e57⟩ := ob2_some e57
          refine wl_callV1 d_Reader_condition_78 lc_Reader_emit lv_Reader_163 rfl sh_100 rfl rfl ⟨rfl, rfl⟩ ⟨by decide, by decide⟩ ?_
          refine s_Reader_emit (d := d + 3) e77 ?_
          refine wp_pop d_Reader_condition_81 rfl ?_
          cases e57
          exact k55 _
      obtain ⟨x78, M80, e79, e2⟩ := ob2_some e2
      cases e2
      refine wp_aload_n d_Reader_condition_11 rfl rfl ?_
      refine wp_iload_n d_Reader_condition_12 rfl rfl ?_
      obtain ⟨v81, M82, e83, e79⟩ := ob2_some e79
      refine wl_callV1 d_Reader_condition_13 lc_Reader_single lv_Reader_158 rfl sh_100 rfl rfl ⟨rfl, rfl⟩ ⟨by decide, by decide⟩ ?_
      refine s_Reader_single (d := d) hrc e83 ?_
      refine wc_ne 21 d_Reader_condition_16 rfl (fun h16 => ?_) (fun h16 => ?_)
      · cases e79
        exact k12 _ (nb_t h16)
      · cases e79
        exact k10 _ (nb_f h16)
theorem b_Reader_condition {open_ : Int32} {M : mM} {r : Bool} {M' : mM} {rc : Int32 → mM → Option (Bool × mM)} (hrc : ∀ {a : Int32} {M : mM} {r : Bool} {M' : mM} {Q : Option Value → mH → Prop}, rc a M = some (r, M') → Q (some (.int (bI r))) (lay M') → Sp X (d + 2) f_Reader_condition [.ref 100, .int a] (lay M) Q) (h : B_Reader_condition z rc open_ M = some (r, M')) (hq : Q (some (.int (bI r))) (lay M')) : Sp X (d + 4) f_Reader_condition [.ref 100, .int open_] (lay M) Q := by
  refine Sp_of (by decide) rfl (Nat.le_of_ble_eq_true rfl) ?_
  refine wp_iconst d_Reader_condition_0 (v := nI 0) rfl ?_
  refine wp_istore_n d_Reader_condition_1 rfl (by decide) ?_
  refine wp_iconst d_Reader_condition_2 (v := nI 0) rfl ?_
  refine wp_istore_n d_Reader_condition_3 rfl (by decide) ?_
  refine l_Reader_condition_1 hrc hq ?_ _ _ _ _ _ h
  intro ors_84 M85 u3 u4 h
  refine wp_iconst d_Reader_condition_107 (v := bI false) rfl ?_
  cases h
  exact wb_iret d_Reader_condition_108 rfl rfl hq
theorem s_Reader_condition {open_ : Int32} {M : mM} {r : Bool} {M' : mM} (h : F_Reader_condition z 12 open_ M = some (r, M')) (hq : Q (some (.int (bI r))) (lay M')) : Sp X (d + 28) f_Reader_condition [.ref 100, .int open_] (lay M) Q := by
  have key : ∀ (y : Nat) {d : Nat} {o : Int32} {M : mM} {r : Bool} {M' : mM} {Q : Option Value → mH → Prop}, F_Reader_condition z y o M = some (r, M') → Q (some (.int (bI r))) (lay M') → Sp X (d + 2 * y + 4) f_Reader_condition [.ref 100, .int o] (lay M) Q := by
    intro y
    induction y with
    | zero => intro d o M r M' Q h hq; exact nn h
    | succ y ih =>
      intro d o M r M' Q h hq
      refine b_Reader_condition (d := d + 2 * (y + 1)) (rc := F_Reader_condition z y) (fun h1 h2 => ?_) h hq
      exact ih h1 h2
  exact key 12 h hq
def F_Reader_readLaw (z : Nat) (M : mM) : Option (Bool × mM) :=
  ob2 (ob2 (ob2 (F_Reader_takeFirst (nI 0) (nI 2) M) fun v112 M113 =>
  some (v112, M113)) fun x109 M111 => some (!x109, M111)) fun x1 M3 =>
  if x1 = true then
  some (false, M3)
  else
  ob1 (wa M3 108 5 (nI 1) (M3 100 6)) fun M15 =>
  ob2 (ob2 (ob2 (F_Reader_expression z M15) fun v106 M107 =>
  some (v106, M107)) fun x103 M105 => some (!x103, M105)) fun x16 M18 =>
  if x16 = true then
  some (false, M18)
  else
  ob1 (wa M18 108 5 (nI 2) (M18 100 6)) fun M30 =>
  jn (fun (M64 : mM) =>
  ob1 (wa M64 108 5 (nI 3) (M64 100 6)) fun M67 =>
  ob2 (F_Reader_takeSign (nI 59) M67) fun v68 M69 =>
  some (v68, M69)) fun kj65 =>
  ob1 (ob1 (F_Reader_isWord (nI 3) (nI 3) M30) fun v101 =>
  some (v101)) fun x71 =>
  if x71 = true then
  ob2 (F_Reader_step M30) fun v77 M78 =>
  ob2 (ob2 (ob2 (F_Reader_condition z 12 (nI 0) M78) fun v96 M97 =>
  some (v96, M97)) fun x93 M95 => some (!x93, M95)) fun x80 M82 =>
  if x80 = true then
  some (false, M82)
  else
  kj65 M82
  else
  kj65 M30
theorem s_Reader_readLaw {M : mM} {r : Bool} {M' : mM} (h : F_Reader_readLaw z M = some (r, M')) (hq : Q (some (.int (bI r))) (lay M')) : Sp X (d + 29) f_Reader_readLaw [.ref 100] (lay M) Q := by
  refine Sp_of (by decide) rfl (Nat.le_of_ble_eq_true rfl) ?_
  obtain ⟨x1, M3, e2, h⟩ := ob2_some h
  have k10 : x1 = true → wp X (d + 29) f_Reader_readLaw (0, 0) 9 [.ref 100] [] (lay M3) Q := by
    intro x11
    replace h := ip h x11
    refine wp_iconst d_Reader_readLaw_9 (v := bI false) rfl ?_
    cases h
    exact wb_iret d_Reader_readLaw_10 rfl rfl hq
  have k12 : ¬ x1 = true → wp X (d + 29) f_Reader_readLaw (0, 0) 11 [.ref 100] [] (lay M3) Q := by
    intro x13
    replace h := inn h x13
    refine wp_aload_n d_Reader_readLaw_11 rfl rfl ?_
    refine wl_getR d_Reader_readLaw_12 lf_Reader_55 sh_100 rfl ?_
    refine wp_iconst d_Reader_readLaw_15 (v := nI 1) rfl ?_
    refine wp_aload_n d_Reader_readLaw_16 rfl rfl ?_
    refine wl_getI d_Reader_readLaw_17 lf_Reader_37 sh_100 rfl rfl ?_
    obtain ⟨M15, e14, h⟩ := ob1_some h
    refine wa_ast d_Reader_readLaw_20 sh_108 e14 ?_
    obtain ⟨x16, M18, e17, h⟩ := ob2_some h
    have k25 : x16 = true → wp X (d + 29) f_Reader_readLaw (0, 0) 28 [.ref 100] [] (lay M18) Q := by
      intro x26
      replace h := ip h x26
      refine wp_iconst d_Reader_readLaw_28 (v := bI false) rfl ?_
      cases h
      exact wb_iret d_Reader_readLaw_29 rfl rfl hq
    have k27 : ¬ x16 = true → wp X (d + 29) f_Reader_readLaw (0, 0) 30 [.ref 100] [] (lay M18) Q := by
      intro x28
      replace h := inn h x28
      refine wp_aload_n d_Reader_readLaw_30 rfl rfl ?_
      refine wl_getR d_Reader_readLaw_31 lf_Reader_55 sh_100 rfl ?_
      refine wp_iconst d_Reader_readLaw_34 (v := nI 2) rfl ?_
      refine wp_aload_n d_Reader_readLaw_35 rfl rfl ?_
      refine wl_getI d_Reader_readLaw_36 lf_Reader_37 sh_100 rfl rfl ?_
      obtain ⟨M30, e29, h⟩ := ob1_some h
      refine wa_ast d_Reader_readLaw_39 sh_108 e29 ?_
      have k63 : ∀ (M64 : mM), (fun (M64 : mM) =>
      ob1 (wa M64 108 5 (nI 3) (M64 100 6)) fun M67 =>
      ob2 (F_Reader_takeSign (nI 59) M67) fun v68 M69 =>
      some (v68, M69)) M64 = some (r, M') → wp X (d + 29) f_Reader_readLaw (0, 0) 64 [.ref 100] [] (lay M64) Q := by
        intro M64 h
        refine wp_aload_n d_Reader_readLaw_64 rfl rfl ?_
        refine wl_getR d_Reader_readLaw_65 lf_Reader_55 sh_100 rfl ?_
        refine wp_iconst d_Reader_readLaw_68 (v := nI 3) rfl ?_
        refine wp_aload_n d_Reader_readLaw_69 rfl rfl ?_
        refine wl_getI d_Reader_readLaw_70 lf_Reader_37 sh_100 rfl rfl ?_
        obtain ⟨M67, e66, h⟩ := ob1_some h
        refine wa_ast d_Reader_readLaw_73 sh_108 e66 ?_
        refine wp_aload_n d_Reader_readLaw_74 rfl rfl ?_
        refine wp_bipush d_Reader_readLaw_75 (v := nI 59) rfl ?_
        obtain ⟨v68, M69, e70, h⟩ := ob2_some h
        refine wl_callV1 d_Reader_readLaw_77 lc_Reader_takeSign lv_Reader_149 rfl sh_100 rfl rfl ⟨rfl, rfl⟩ ⟨by decide, by decide⟩ ?_
        refine s_Reader_takeSign (d := d + 27) e70 ?_
        cases h
        exact wb_iret d_Reader_readLaw_80 rfl rfl hq
      obtain ⟨x71, e72, h⟩ := ob1_some h
      have k75 : x71 = true → wp X (d + 29) f_Reader_readLaw (0, 0) 49 [.ref 100] [] (lay M30) Q := by
        intro x76
        replace h := ip h x76
        refine wp_aload_n d_Reader_readLaw_49 rfl rfl ?_
        obtain ⟨v77, M78, e79, h⟩ := ob2_some h
        refine wl_callV0 d_Reader_readLaw_50 lc_Reader_step lv_Reader_140 rfl sh_100 rfl rfl ⟨rfl, rfl⟩ ⟨by decide, by decide⟩ ?_
        refine s_Reader_step (d := d + 28) e79 ?_
        refine wp_pop d_Reader_readLaw_53 rfl ?_
        obtain ⟨x80, M82, e81, h⟩ := ob2_some h
        have k89 : x80 = true → wp X (d + 29) f_Reader_readLaw (0, 0) 62 [.ref 100] [] (lay M82) Q := by
          intro x90
          replace h := ip h x90
          refine wp_iconst d_Reader_readLaw_62 (v := bI false) rfl ?_
          cases h
          exact wb_iret d_Reader_readLaw_63 rfl rfl hq
        have k91 : ¬ x80 = true → wp X (d + 29) f_Reader_readLaw (0, 0) 64 [.ref 100] [] (lay M82) Q := by
          intro x92
          replace h := inn h x92
          exact k63 _ h
        obtain ⟨x93, M95, e94, e81⟩ := ob2_some e81
        cases e81
        refine wp_aload_n d_Reader_readLaw_54 rfl rfl ?_
        refine wp_iconst d_Reader_readLaw_55 (v := nI 0) rfl ?_
        obtain ⟨v96, M97, e98, e94⟩ := ob2_some e94
        refine wl_callV1 d_Reader_readLaw_56 lc_Reader_condition lv_Reader_155 rfl sh_100 rfl rfl ⟨rfl, rfl⟩ ⟨by decide, by decide⟩ ?_
        refine s_Reader_condition (d := d) e98 ?_
        refine wc_ne 64 d_Reader_readLaw_59 rfl (fun h59 => ?_) (fun h59 => ?_)
        · cases e94
          exact k91 (nb_t h59)
        · cases e94
          exact k89 (nb_f h59)
      have k99 : ¬ x71 = true → wp X (d + 29) f_Reader_readLaw (0, 0) 64 [.ref 100] [] (lay M30) Q := by
        intro x100
        replace h := inn h x100
        exact k63 _ h
      refine wp_aload_n d_Reader_readLaw_40 rfl rfl ?_
      refine wp_iconst d_Reader_readLaw_41 (v := nI 3) rfl ?_
      refine wp_iconst d_Reader_readLaw_42 (v := nI 3) rfl ?_
      obtain ⟨v101, e102, e72⟩ := ob1_some e72
      refine wl_callV2 d_Reader_readLaw_43 lc_Reader_isWord lv_Reader_120 rfl sh_100 rfl rfl ⟨rfl, rfl⟩ ⟨by decide, by decide⟩ ?_
      refine s_Reader_isWord (d := d + 28) e102 ?_
      refine wc_eq 64 d_Reader_readLaw_46 rfl (fun h46 => ?_) (fun h46 => ?_)
      · cases e72
        exact k99 h46
      · cases e72
        exact k75 h46
    obtain ⟨x103, M105, e104, e17⟩ := ob2_some e17
    cases e17
    refine wp_aload_n d_Reader_readLaw_21 rfl rfl ?_
    obtain ⟨v106, M107, e108, e104⟩ := ob2_some e104
    refine wl_callV0 d_Reader_readLaw_22 lc_Reader_expression lv_Reader_152 rfl sh_100 rfl rfl ⟨rfl, rfl⟩ ⟨by decide, by decide⟩ ?_
    refine s_Reader_expression (d := d + 26) e108 ?_
    refine wc_ne 30 d_Reader_readLaw_25 rfl (fun h25 => ?_) (fun h25 => ?_)
    · cases e104
      exact k27 (nb_t h25)
    · cases e104
      exact k25 (nb_f h25)
  obtain ⟨x109, M111, e110, e2⟩ := ob2_some e2
  cases e2
  refine wp_aload_n d_Reader_readLaw_0 rfl rfl ?_
  refine wp_iconst d_Reader_readLaw_1 (v := nI 0) rfl ?_
  refine wp_iconst d_Reader_readLaw_2 (v := nI 2) rfl ?_
  obtain ⟨v112, M113, e114, e110⟩ := ob2_some e110
  refine wl_callV2 d_Reader_readLaw_3 lc_Reader_takeFirst lv_Reader_143 rfl sh_100 rfl rfl ⟨rfl, rfl⟩ ⟨by decide, by decide⟩ ?_
  refine s_Reader_takeFirst (d := d + 25) e114 ?_
  refine wc_ne 11 d_Reader_readLaw_6 rfl (fun h6 => ?_) (fun h6 => ?_)
  · cases e110
    exact k12 (nb_t h6)
  · cases e110
    exact k10 (nb_f h6)
def F_Reader_readSky (M : mM) : Option (Bool × mM) :=
  ob2 (ob2 (ob2 (ob2 (F_Reader_takeFirst (nI 18) (nI 18) M) fun v246 M247 =>
  some (v246, M247)) fun x243 M245 => some (!x243, M245)) fun x224 M226 =>
  if x224 = true then some (true, M226)
  else ob2 (ob2 (F_Reader_takeNumber (nI 0) (nI 999) (nI 0) M226) fun v240 M241 =>
  some (v240, M241)) fun x237 M239 => some (!x237, M239)) fun x1 M3 =>
  if x1 = true then
  some (false, M3)
  else
  ob1 (ob1 (ob1 (F_Reader_isWord (nI 14) (nI 15) M3) fun v222 =>
  some (v222)) fun x212 =>
  if x212 = true then some (true)
  else ob1 (F_Reader_isWord (nI 26) (nI 27) M3) fun v220 =>
  some (v220)) fun x46 =>
  if ¬ (x46 = true) then
  ob2 (F_Reader_fail (nI 1) M3) fun v209 M210 =>
  some (v209, M210)
  else
  ob2 (F_Reader_keep (nI 1) M3) fun v48 M49 =>
  ob2 (ob1 (ob1 (ra M49 108 5 (nI 1)) fun v208 =>
  some (decide (v208 = (nI 26)))) fun x147 =>
  if x147 = true then
  ob2 (ob2 (ob2 (F_Reader_takeNumber (nI 0) (nI 59) (nI 2) M49) fun v186 M187 =>
  some (v186, M187)) fun x173 M175 =>
  if x173 = true then ob2 (F_Reader_takeNumber (nI 0) (nI 99) (nI 3) M175) fun v181 M182 =>
  some (v181, M182)
  else some (false, M175)) fun x170 M172 =>
  some (x170, M172)
  else
  ob1 (ob1 (ra M49 108 5 (nI 1)) fun v206 =>
  some (decide (v206 = (nI 27)))) fun x191 =>
  if x191 = true then
  ob2 (F_Reader_takeNumber (nI 1) (nI 99) (nI 2) M49) fun v197 M198 =>
  some (v197, M198)
  else
  ob2 (F_Reader_takeNumber (nI 0) (nI 9) (nI 2) M49) fun v202 M203 =>
  some (v202, M203)) fun well_134 M135 =>
  ob2 (if well_134 = true then ob2 (F_Reader_takeSign (nI 59) M135) fun v144 M145 =>
  some (v144, M145)
  else some (false, M135)) fun x141 M143 =>
  some (x141, M143)
theorem s_Reader_readSky {M : mM} {r : Bool} {M' : mM} (h : F_Reader_readSky M = some (r, M')) (hq : Q (some (.int (bI r))) (lay M')) : Sp X (d + 4) f_Reader_readSky [.ref 100] (lay M) Q := by
  refine Sp_of (by decide) rfl (Nat.le_of_ble_eq_true rfl) ?_
  obtain ⟨x1, M3, e2, h⟩ := ob2_some h
  have k29 : ∀ u1 u2 : Value, x1 = true → wp X (d + 4) f_Reader_readSky (0, 0) 23 [.ref 100, u1, u2] [] (lay M3) Q := by
    intro u1 u2 x30
    replace h := ip h x30
    refine wp_iconst d_Reader_readSky_23 (v := bI false) rfl ?_
    cases h
    exact wb_iret d_Reader_readSky_24 rfl rfl hq
  have k31 : ∀ u1 u2 : Value, ¬ x1 = true → wp X (d + 4) f_Reader_readSky (0, 0) 25 [.ref 100, u1, u2] [] (lay M3) Q := by
    intro u1 u2 x32
    replace h := inn h x32
    obtain ⟨x46, e47, h⟩ := ob1_some h
    have k45 : ∀ u1 u2 : Value, wp X (d + 4) f_Reader_readSky (0, 0) 52 [.ref 100, u1, u2] [.int (bI x46)] (lay M3) Q := by
      intro u1 u2
      refine wp_istore_n d_Reader_readSky_52 rfl (by decide) ?_
      refine wp_iload_n d_Reader_readSky_53 rfl rfl ?_
      refine wc_ne 63 d_Reader_readSky_54 rfl (fun h54 => ?_) (fun h54 => ?_)
      · replace h := inn h (fun z => z h54)
        refine wp_aload_n d_Reader_readSky_63 rfl rfl ?_
        refine wp_iconst d_Reader_readSky_64 (v := nI 1) rfl ?_
        obtain ⟨v48, M49, e50, h⟩ := ob2_some h
        refine wl_callV1 d_Reader_readSky_65 lc_Reader_keep lv_Reader_133 rfl sh_100 rfl rfl ⟨rfl, rfl⟩ ⟨by decide, by decide⟩ ?_
        refine s_Reader_keep (d := d + 2) e50 ?_
        refine wp_pop d_Reader_readSky_68 rfl ?_
        obtain ⟨well_134, M135, e136, h⟩ := ob2_some h
        have k133 : wp X (d + 4) f_Reader_readSky (0, 0) 143 [.ref 100, .int (bI x46), .int (bI well_134)] [] (lay M135) Q := by
          obtain ⟨x141, M143, e142, h⟩ := ob2_some h
          have k140 : wp X (d + 4) f_Reader_readSky (0, 0) 161 [.ref 100, .int (bI x46), .int (bI well_134)] [.int (bI x141)] (lay M143) Q := by
            cases h
            exact wb_iret d_Reader_readSky_161 rfl rfl hq
          refine wp_iload_n d_Reader_readSky_143 rfl rfl ?_
          refine wc_eq 160 d_Reader_readSky_144 rfl (fun h144 => ?_) (fun h144 => ?_)
          · replace e142 := inn e142 h144
            cases e142
            refine wp_iconst d_Reader_readSky_160 (v := nI 0) rfl ?_
            exact wj_b0 (fun z => Bool.noConfusion z) (k140)
          · replace e142 := ip e142 h144
            refine wp_aload_n d_Reader_readSky_147 rfl rfl ?_
            refine wp_bipush d_Reader_readSky_148 (v := nI 59) rfl ?_
            obtain ⟨v144, M145, e146, e142⟩ := ob2_some e142
            refine wl_callV1 d_Reader_readSky_150 lc_Reader_takeSign lv_Reader_149 rfl sh_100 rfl rfl ⟨rfl, rfl⟩ ⟨by decide, by decide⟩ ?_
            refine s_Reader_takeSign (d := d + 2) e146 ?_
            refine wc_eq 160 d_Reader_readSky_153 rfl (fun h153 => ?_) (fun h153 => ?_)
            · cases e142
              refine wp_iconst d_Reader_readSky_160 (v := nI 0) rfl ?_
              exact wj_b0 h153 (k140)
            · cases e142
              refine wp_iconst d_Reader_readSky_156 (v := nI 1) rfl ?_
              refine wp_goto 161 d_Reader_readSky_157 rfl ?_
              exact wj_b1 h153 (k140)
        obtain ⟨x147, e148, e136⟩ := ob1_some e136
        have k151 : ∀ u2 : Value, x147 = true → wp X (d + 4) f_Reader_readSky (0, 0) 80 [.ref 100, .int (bI x46), u2] [] (lay M49) Q := by
          intro u2 x152
          replace e136 := ip e136 x152
          obtain ⟨x170, M172, e171, e136⟩ := ob2_some e136
          have k169 : ∀ u2 : Value, wp X (d + 4) f_Reader_readSky (0, 0) 107 [.ref 100, .int (bI x46), u2] [.int (bI x170)] (lay M172) Q := by
            intro u2
            refine wp_istore_n d_Reader_readSky_107 rfl (by decide) ?_
            cases e136
            refine wp_goto 143 d_Reader_readSky_108 rfl ?_
            exact k133
          obtain ⟨x173, M175, e174, e171⟩ := ob2_some e171
          have k179 : ∀ u2 : Value, x173 = true → wp X (d + 4) f_Reader_readSky (0, 0) 91 [.ref 100, .int (bI x46), u2] [] (lay M175) Q := by
            intro u2 x180
            replace e171 := ip e171 x180
            refine wp_aload_n d_Reader_readSky_91 rfl rfl ?_
            refine wp_iconst d_Reader_readSky_92 (v := nI 0) rfl ?_
            refine wp_bipush d_Reader_readSky_93 (v := nI 99) rfl ?_
            refine wp_iconst d_Reader_readSky_95 (v := nI 3) rfl ?_
            obtain ⟨v181, M182, e183, e171⟩ := ob2_some e171
            refine wl_callV3 d_Reader_readSky_96 lc_Reader_takeNumber lv_Reader_146 rfl sh_100 rfl rfl ⟨rfl, rfl⟩ ⟨by decide, by decide⟩ ?_
            refine s_Reader_takeNumber (d := d + 1) e183 ?_
            refine wc_eq 106 d_Reader_readSky_99 rfl (fun h99 => ?_) (fun h99 => ?_)
            · cases e171
              refine wp_iconst d_Reader_readSky_106 (v := nI 0) rfl ?_
              exact wj_b0 h99 (k169 _)
            · cases e171
              refine wp_iconst d_Reader_readSky_102 (v := nI 1) rfl ?_
              refine wp_goto 107 d_Reader_readSky_103 rfl ?_
              exact wj_b1 h99 (k169 _)
          have k184 : ∀ u2 : Value, ¬ x173 = true → wp X (d + 4) f_Reader_readSky (0, 0) 106 [.ref 100, .int (bI x46), u2] [] (lay M175) Q := by
            intro u2 x185
            replace e171 := inn e171 x185
            cases e171
            refine wp_iconst d_Reader_readSky_106 (v := nI 0) rfl ?_
            exact wj_b0 (fun z => Bool.noConfusion z) (k169 _)
          refine wp_aload_n d_Reader_readSky_80 rfl rfl ?_
          refine wp_iconst d_Reader_readSky_81 (v := nI 0) rfl ?_
          refine wp_bipush d_Reader_readSky_82 (v := nI 59) rfl ?_
          refine wp_iconst d_Reader_readSky_84 (v := nI 2) rfl ?_
          obtain ⟨v186, M187, e188, e174⟩ := ob2_some e174
          refine wl_callV3 d_Reader_readSky_85 lc_Reader_takeNumber lv_Reader_146 rfl sh_100 rfl rfl ⟨rfl, rfl⟩ ⟨by decide, by decide⟩ ?_
          refine s_Reader_takeNumber (d := d + 1) e188 ?_
          refine wc_eq 106 d_Reader_readSky_88 rfl (fun h88 => ?_) (fun h88 => ?_)
          · cases e174
            exact k184 _ h88
          · cases e174
            exact k179 _ h88
        have k189 : ∀ u2 : Value, ¬ x147 = true → wp X (d + 4) f_Reader_readSky (0, 0) 111 [.ref 100, .int (bI x46), u2] [] (lay M49) Q := by
          intro u2 x190
          replace e136 := inn e136 x190
          obtain ⟨x191, e192, e136⟩ := ob1_some e136
          have k195 : ∀ u2 : Value, x191 = true → wp X (d + 4) f_Reader_readSky (0, 0) 122 [.ref 100, .int (bI x46), u2] [] (lay M49) Q := by
            intro u2 x196
            replace e136 := ip e136 x196
            refine wp_aload_n d_Reader_readSky_122 rfl rfl ?_
            refine wp_iconst d_Reader_readSky_123 (v := nI 1) rfl ?_
            refine wp_bipush d_Reader_readSky_124 (v := nI 99) rfl ?_
            refine wp_iconst d_Reader_readSky_126 (v := nI 2) rfl ?_
            obtain ⟨v197, M198, e199, e136⟩ := ob2_some e136
            refine wl_callV3 d_Reader_readSky_127 lc_Reader_takeNumber lv_Reader_146 rfl sh_100 rfl rfl ⟨rfl, rfl⟩ ⟨by decide, by decide⟩ ?_
            refine s_Reader_takeNumber (d := d + 1) e199 ?_
            refine wp_istore_n d_Reader_readSky_130 rfl (by decide) ?_
            cases e136
            refine wp_goto 143 d_Reader_readSky_131 rfl ?_
            exact k133
          have k200 : ∀ u2 : Value, ¬ x191 = true → wp X (d + 4) f_Reader_readSky (0, 0) 134 [.ref 100, .int (bI x46), u2] [] (lay M49) Q := by
            intro u2 x201
            replace e136 := inn e136 x201
            refine wp_aload_n d_Reader_readSky_134 rfl rfl ?_
            refine wp_iconst d_Reader_readSky_135 (v := nI 0) rfl ?_
            refine wp_bipush d_Reader_readSky_136 (v := nI 9) rfl ?_
            refine wp_iconst d_Reader_readSky_138 (v := nI 2) rfl ?_
            obtain ⟨v202, M203, e204, e136⟩ := ob2_some e136
            refine wl_callV3 d_Reader_readSky_139 lc_Reader_takeNumber lv_Reader_146 rfl sh_100 rfl rfl ⟨rfl, rfl⟩ ⟨by decide, by decide⟩ ?_
            refine s_Reader_takeNumber (d := d + 1) e204 ?_
            refine wp_istore_n d_Reader_readSky_142 rfl (by decide) ?_
            cases e136
            exact k133
          refine wp_aload_n d_Reader_readSky_111 rfl rfl ?_
          refine wl_getR d_Reader_readSky_112 lf_Reader_55 sh_100 rfl ?_
          refine wp_iconst d_Reader_readSky_115 (v := nI 1) rfl ?_
          obtain ⟨v206, e205, e192⟩ := ob1_some e192
          refine wa_ald d_Reader_readSky_116 sh_108 e205 ?_
          refine wp_bipush d_Reader_readSky_117 (v := nI 27) rfl ?_
          refine wq_icmp_ne 134 d_Reader_readSky_119 rfl (fun h119 => ?_) (fun h119 => ?_)
          · cases e192
            exact k200 _ (fun z => h119 (of_decide_eq_true z))
          · cases e192
            exact k195 _ (decide_eq_true h119)
        refine wp_aload_n d_Reader_readSky_69 rfl rfl ?_
        refine wl_getR d_Reader_readSky_70 lf_Reader_55 sh_100 rfl ?_
        refine wp_iconst d_Reader_readSky_73 (v := nI 1) rfl ?_
        obtain ⟨v208, e207, e148⟩ := ob1_some e148
        refine wa_ald d_Reader_readSky_74 sh_108 e207 ?_
        refine wp_bipush d_Reader_readSky_75 (v := nI 26) rfl ?_
        refine wq_icmp_ne 111 d_Reader_readSky_77 rfl (fun h77 => ?_) (fun h77 => ?_)
        · cases e148
          exact k189 _ (fun z => h77 (of_decide_eq_true z))
        · cases e148
          exact k151 _ (decide_eq_true h77)
      · replace h := ip h h54
        refine wp_aload_n d_Reader_readSky_57 rfl rfl ?_
        refine wp_iconst d_Reader_readSky_58 (v := nI 1) rfl ?_
        obtain ⟨v209, M210, e211, h⟩ := ob2_some h
        refine wl_callV1 d_Reader_readSky_59 lc_Reader_fail lv_Reader_127 rfl sh_100 rfl rfl ⟨rfl, rfl⟩ ⟨by decide, by decide⟩ ?_
        refine s_Reader_fail (d := d + 3) e211 ?_
        cases h
        exact wb_iret d_Reader_readSky_62 rfl rfl hq
    obtain ⟨x212, e213, e47⟩ := ob1_some e47
    have k216 : ∀ u1 u2 : Value, x212 = true → wp X (d + 4) f_Reader_readSky (0, 0) 47 [.ref 100, u1, u2] [] (lay M3) Q := by
      intro u1 u2 x217
      replace e47 := ip e47 x217
      cases e47
      refine wp_iconst d_Reader_readSky_47 (v := nI 1) rfl ?_
      refine wp_goto 52 d_Reader_readSky_48 rfl ?_
      exact wj_b1 rfl (k45 _ _)
    have k218 : ∀ u1 u2 : Value, ¬ x212 = true → wp X (d + 4) f_Reader_readSky (0, 0) 36 [.ref 100, u1, u2] [] (lay M3) Q := by
      intro u1 u2 x219
      replace e47 := inn e47 x219
      refine wp_aload_n d_Reader_readSky_36 rfl rfl ?_
      refine wp_bipush d_Reader_readSky_37 (v := nI 26) rfl ?_
      refine wp_bipush d_Reader_readSky_39 (v := nI 27) rfl ?_
      obtain ⟨v220, e221, e47⟩ := ob1_some e47
      refine wl_callV2 d_Reader_readSky_41 lc_Reader_isWord lv_Reader_120 rfl sh_100 rfl rfl ⟨rfl, rfl⟩ ⟨by decide, by decide⟩ ?_
      refine s_Reader_isWord (d := d + 3) e221 ?_
      refine wc_eq 51 d_Reader_readSky_44 rfl (fun h44 => ?_) (fun h44 => ?_)
      · cases e47
        refine wp_iconst d_Reader_readSky_51 (v := nI 0) rfl ?_
        exact wj_b0 h44 (k45 _ _)
      · cases e47
        refine wp_iconst d_Reader_readSky_47 (v := nI 1) rfl ?_
        refine wp_goto 52 d_Reader_readSky_48 rfl ?_
        exact wj_b1 h44 (k45 _ _)
    refine wp_aload_n d_Reader_readSky_25 rfl rfl ?_
    refine wp_bipush d_Reader_readSky_26 (v := nI 14) rfl ?_
    refine wp_bipush d_Reader_readSky_28 (v := nI 15) rfl ?_
    obtain ⟨v222, e223, e213⟩ := ob1_some e213
    refine wl_callV2 d_Reader_readSky_30 lc_Reader_isWord lv_Reader_120 rfl sh_100 rfl rfl ⟨rfl, rfl⟩ ⟨by decide, by decide⟩ ?_
    refine s_Reader_isWord (d := d + 3) e223 ?_
    refine wc_ne 47 d_Reader_readSky_33 rfl (fun h33 => ?_) (fun h33 => ?_)
    · cases e213
      exact k216 _ _ h33
    · cases e213
      exact k218 _ _ h33
  obtain ⟨x224, M226, e225, e2⟩ := ob2_some e2
  have k233 : ∀ u1 u2 : Value, x224 = true → wp X (d + 4) f_Reader_readSky (0, 0) 23 [.ref 100, u1, u2] [] (lay M226) Q := by
    intro u1 u2 x234
    replace e2 := ip e2 x234
    cases e2
    exact k29 _ _ rfl
  have k235 : ∀ u1 u2 : Value, ¬ x224 = true → wp X (d + 4) f_Reader_readSky (0, 0) 11 [.ref 100, u1, u2] [] (lay M226) Q := by
    intro u1 u2 x236
    replace e2 := inn e2 x236
    obtain ⟨x237, M239, e238, e2⟩ := ob2_some e2
    cases e2
    refine wp_aload_n d_Reader_readSky_11 rfl rfl ?_
    refine wp_iconst d_Reader_readSky_12 (v := nI 0) rfl ?_
    refine wp_sipush d_Reader_readSky_13 (v := nI 999) rfl ?_
    refine wp_iconst d_Reader_readSky_16 (v := nI 0) rfl ?_
    obtain ⟨v240, M241, e242, e238⟩ := ob2_some e238
    refine wl_callV3 d_Reader_readSky_17 lc_Reader_takeNumber lv_Reader_146 rfl sh_100 rfl rfl ⟨rfl, rfl⟩ ⟨by decide, by decide⟩ ?_
    refine s_Reader_takeNumber (d := d + 1) e242 ?_
    refine wc_ne 25 d_Reader_readSky_20 rfl (fun h20 => ?_) (fun h20 => ?_)
    · cases e238
      exact k31 _ _ (nb_t h20)
    · cases e238
      exact k29 _ _ (nb_f h20)
  obtain ⟨x243, M245, e244, e225⟩ := ob2_some e225
  cases e225
  refine wp_aload_n d_Reader_readSky_0 rfl rfl ?_
  refine wp_bipush d_Reader_readSky_1 (v := nI 18) rfl ?_
  refine wp_bipush d_Reader_readSky_3 (v := nI 18) rfl ?_
  obtain ⟨v246, M247, e248, e244⟩ := ob2_some e244
  refine wl_callV2 d_Reader_readSky_5 lc_Reader_takeFirst lv_Reader_143 rfl sh_100 rfl rfl ⟨rfl, rfl⟩ ⟨by decide, by decide⟩ ?_
  refine s_Reader_takeFirst (d := d) e248 ?_
  refine wc_eq 23 d_Reader_readSky_8 rfl (fun h8 => ?_) (fun h8 => ?_)
  · cases e244
    exact k233 _ _ (nb_f h8)
  · cases e244
    exact k235 _ _ (nb_t h8)
def F_Reader_readStrips (M : mM) : Option (Bool × mM) :=
  ob2 (ob2 (ob2 (ob2 (ob2 (ob2 (F_Reader_takeFirst (nI 28) (nI 28) M) fun v356 M357 =>
  some (v356, M357)) fun x353 M355 => some (!x353, M355)) fun x334 M336 =>
  if x334 = true then some (true, M336)
  else ob2 (ob2 (F_Reader_takeNumber (nI 0) (nI 11) (nI 0) M336) fun v350 M351 =>
  some (v350, M351)) fun x347 M349 => some (!x347, M349)) fun x296 M298 =>
  if x296 = true then some (true, M298)
  else ob2 (ob2 (F_Reader_takeWord (nI 18) (nI 18) (nI 1) M298) fun v331 M332 =>
  some (v331, M332)) fun x328 M330 => some (!x328, M330)) fun x220 M222 =>
  if x220 = true then some (true, M222)
  else ob2 (ob2 (F_Reader_takeWord (nI 28) (nI 28) (nI 1) M222) fun v293 M294 =>
  some (v293, M294)) fun x290 M292 => some (!x290, M292)) fun x1 M3 =>
  if x1 = true then
  some (false, M3)
  else
  ob1 (ob1 (ob1 (ra M3 105 401 (M3 100 11)) fun v219 =>
  some (decide (v219 = (nI 2)))) fun x206 =>
  if x206 = true then ob1 (ra M3 106 401 (M3 100 11)) fun v213 =>
  ob1 (ra M3 108 5 (nI 0)) fun v215 =>
  some (decide (v213 = v215))
  else some (false)) fun x147 =>
  if x147 = true then
  ob2 (F_Reader_fail (nI 2) M3) fun v165 M166 =>
  some (v165, M166)
  else
  ob2 (ob2 (ob2 (F_Reader_takeNumber (nI 0) (nI 11) (nI 1) M3) fun v203 M204 =>
  some (v203, M204)) fun x190 M192 =>
  if x190 = true then ob2 (F_Reader_takeSign (nI 59) M192) fun v198 M199 =>
  some (v198, M199)
  else some (false, M192)) fun x187 M189 =>
  some (x187, M189)
theorem s_Reader_readStrips {M : mM} {r : Bool} {M' : mM} (h : F_Reader_readStrips M = some (r, M')) (hq : Q (some (.int (bI r))) (lay M')) : Sp X (d + 4) f_Reader_readStrips [.ref 100] (lay M) Q := by
  refine Sp_of (by decide) rfl (Nat.le_of_ble_eq_true rfl) ?_
  obtain ⟨x1, M3, e2, h⟩ := ob2_some h
  have k143 : x1 = true → wp X (d + 4) f_Reader_readStrips (0, 0) 46 [.ref 100] [] (lay M3) Q := by
    intro x144
    replace h := ip h x144
    refine wp_iconst d_Reader_readStrips_46 (v := bI false) rfl ?_
    cases h
    exact wb_iret d_Reader_readStrips_47 rfl rfl hq
  have k145 : ¬ x1 = true → wp X (d + 4) f_Reader_readStrips (0, 0) 48 [.ref 100] [] (lay M3) Q := by
    intro x146
    replace h := inn h x146
    obtain ⟨x147, e148, h⟩ := ob1_some h
    have k163 : x147 = true → wp X (d + 4) f_Reader_readStrips (0, 0) 79 [.ref 100] [] (lay M3) Q := by
      intro x164
      replace h := ip h x164
      refine wp_aload_n d_Reader_readStrips_79 rfl rfl ?_
      refine wp_iconst d_Reader_readStrips_80 (v := nI 2) rfl ?_
      obtain ⟨v165, M166, e167, h⟩ := ob2_some h
      refine wl_callV1 d_Reader_readStrips_81 lc_Reader_fail lv_Reader_127 rfl sh_100 rfl rfl ⟨rfl, rfl⟩ ⟨by decide, by decide⟩ ?_
      refine s_Reader_fail (d := d + 3) e167 ?_
      cases h
      exact wb_iret d_Reader_readStrips_84 rfl rfl hq
    have k168 : ¬ x147 = true → wp X (d + 4) f_Reader_readStrips (0, 0) 85 [.ref 100] [] (lay M3) Q := by
      intro x169
      replace h := inn h x169
      obtain ⟨x187, M189, e188, h⟩ := ob2_some h
      have k186 : wp X (d + 4) f_Reader_readStrips (0, 0) 110 [.ref 100] [.int (bI x187)] (lay M189) Q := by
        cases h
        exact wb_iret d_Reader_readStrips_110 rfl rfl hq
      obtain ⟨x190, M192, e191, e188⟩ := ob2_some e188
      have k196 : x190 = true → wp X (d + 4) f_Reader_readStrips (0, 0) 96 [.ref 100] [] (lay M192) Q := by
        intro x197
        replace e188 := ip e188 x197
        refine wp_aload_n d_Reader_readStrips_96 rfl rfl ?_
        refine wp_bipush d_Reader_readStrips_97 (v := nI 59) rfl ?_
        obtain ⟨v198, M199, e200, e188⟩ := ob2_some e188
        refine wl_callV1 d_Reader_readStrips_99 lc_Reader_takeSign lv_Reader_149 rfl sh_100 rfl rfl ⟨rfl, rfl⟩ ⟨by decide, by decide⟩ ?_
        refine s_Reader_takeSign (d := d + 2) e200 ?_
        refine wc_eq 109 d_Reader_readStrips_102 rfl (fun h102 => ?_) (fun h102 => ?_)
        · cases e188
          refine wp_iconst d_Reader_readStrips_109 (v := nI 0) rfl ?_
          exact wj_b0 h102 (k186)
        · cases e188
          refine wp_iconst d_Reader_readStrips_105 (v := nI 1) rfl ?_
          refine wp_goto 110 d_Reader_readStrips_106 rfl ?_
          exact wj_b1 h102 (k186)
      have k201 : ¬ x190 = true → wp X (d + 4) f_Reader_readStrips (0, 0) 109 [.ref 100] [] (lay M192) Q := by
        intro x202
        replace e188 := inn e188 x202
        cases e188
        refine wp_iconst d_Reader_readStrips_109 (v := nI 0) rfl ?_
        exact wj_b0 (fun z => Bool.noConfusion z) (k186)
      refine wp_aload_n d_Reader_readStrips_85 rfl rfl ?_
      refine wp_iconst d_Reader_readStrips_86 (v := nI 0) rfl ?_
      refine wp_bipush d_Reader_readStrips_87 (v := nI 11) rfl ?_
      refine wp_iconst d_Reader_readStrips_89 (v := nI 1) rfl ?_
      obtain ⟨v203, M204, e205, e191⟩ := ob2_some e191
      refine wl_callV3 d_Reader_readStrips_90 lc_Reader_takeNumber lv_Reader_146 rfl sh_100 rfl rfl ⟨rfl, rfl⟩ ⟨by decide, by decide⟩ ?_
      refine s_Reader_takeNumber (d := d + 1) e205 ?_
      refine wc_eq 109 d_Reader_readStrips_93 rfl (fun h93 => ?_) (fun h93 => ?_)
      · cases e191
        exact k201 h93
      · cases e191
        exact k196 h93
    obtain ⟨x206, e207, e148⟩ := ob1_some e148
    have k210 : x206 = true → wp X (d + 4) f_Reader_readStrips (0, 0) 61 [.ref 100] [] (lay M3) Q := by
      intro x211
      replace e148 := ip e148 x211
      refine wp_aload_n d_Reader_readStrips_61 rfl rfl ?_
      refine wl_getR d_Reader_readStrips_62 lf_Reader_43 sh_100 rfl ?_
      refine wp_aload_n d_Reader_readStrips_65 rfl rfl ?_
      refine wl_getI d_Reader_readStrips_66 lf_Reader_52 sh_100 rfl rfl ?_
      obtain ⟨v213, e212, e148⟩ := ob1_some e148
      refine wa_ald d_Reader_readStrips_69 sh_106 e212 ?_
      refine wp_aload_n d_Reader_readStrips_70 rfl rfl ?_
      refine wl_getR d_Reader_readStrips_71 lf_Reader_55 sh_100 rfl ?_
      refine wp_iconst d_Reader_readStrips_74 (v := nI 0) rfl ?_
      obtain ⟨v215, e214, e148⟩ := ob1_some e148
      refine wa_ald d_Reader_readStrips_75 sh_108 e214 ?_
      refine wq_icmp_ne 85 d_Reader_readStrips_76 rfl (fun h76 => ?_) (fun h76 => ?_)
      · cases e148
        exact k168 (fun z => h76 (of_decide_eq_true z))
      · cases e148
        exact k163 (decide_eq_true h76)
    have k216 : ¬ x206 = true → wp X (d + 4) f_Reader_readStrips (0, 0) 85 [.ref 100] [] (lay M3) Q := by
      intro x217
      replace e148 := inn e148 x217
      cases e148
      exact k168 (fun z => Bool.noConfusion z)
    refine wp_aload_n d_Reader_readStrips_48 rfl rfl ?_
    refine wl_getR d_Reader_readStrips_49 lf_Reader_40 sh_100 rfl ?_
    refine wp_aload_n d_Reader_readStrips_52 rfl rfl ?_
    refine wl_getI d_Reader_readStrips_53 lf_Reader_52 sh_100 rfl rfl ?_
    obtain ⟨v219, e218, e207⟩ := ob1_some e207
    refine wa_ald d_Reader_readStrips_56 sh_105 e218 ?_
    refine wp_iconst d_Reader_readStrips_57 (v := nI 2) rfl ?_
    refine wq_icmp_ne 85 d_Reader_readStrips_58 rfl (fun h58 => ?_) (fun h58 => ?_)
    · cases e207
      exact k216 (fun z => h58 (of_decide_eq_true z))
    · cases e207
      exact k210 (decide_eq_true h58)
  obtain ⟨x220, M222, e221, e2⟩ := ob2_some e2
  have k286 : x220 = true → wp X (d + 4) f_Reader_readStrips (0, 0) 46 [.ref 100] [] (lay M222) Q := by
    intro x287
    replace e2 := ip e2 x287
    cases e2
    exact k143 rfl
  have k288 : ¬ x220 = true → wp X (d + 4) f_Reader_readStrips (0, 0) 34 [.ref 100] [] (lay M222) Q := by
    intro x289
    replace e2 := inn e2 x289
    obtain ⟨x290, M292, e291, e2⟩ := ob2_some e2
    cases e2
    refine wp_aload_n d_Reader_readStrips_34 rfl rfl ?_
    refine wp_bipush d_Reader_readStrips_35 (v := nI 28) rfl ?_
    refine wp_bipush d_Reader_readStrips_37 (v := nI 28) rfl ?_
    refine wp_iconst d_Reader_readStrips_39 (v := nI 1) rfl ?_
    obtain ⟨v293, M294, e295, e291⟩ := ob2_some e291
    refine wl_callV3 d_Reader_readStrips_40 lc_Reader_takeWord lv_Reader_130 rfl sh_100 rfl rfl ⟨rfl, rfl⟩ ⟨by decide, by decide⟩ ?_
    refine s_Reader_takeWord (d := d + 1) e295 ?_
    refine wc_ne 48 d_Reader_readStrips_43 rfl (fun h43 => ?_) (fun h43 => ?_)
    · cases e291
      exact k145 (nb_t h43)
    · cases e291
      exact k143 (nb_f h43)
  obtain ⟨x296, M298, e297, e221⟩ := ob2_some e221
  have k324 : x296 = true → wp X (d + 4) f_Reader_readStrips (0, 0) 46 [.ref 100] [] (lay M298) Q := by
    intro x325
    replace e221 := ip e221 x325
    cases e221
    exact k286 rfl
  have k326 : ¬ x296 = true → wp X (d + 4) f_Reader_readStrips (0, 0) 22 [.ref 100] [] (lay M298) Q := by
    intro x327
    replace e221 := inn e221 x327
    obtain ⟨x328, M330, e329, e221⟩ := ob2_some e221
    cases e221
    refine wp_aload_n d_Reader_readStrips_22 rfl rfl ?_
    refine wp_bipush d_Reader_readStrips_23 (v := nI 18) rfl ?_
    refine wp_bipush d_Reader_readStrips_25 (v := nI 18) rfl ?_
    refine wp_iconst d_Reader_readStrips_27 (v := nI 1) rfl ?_
    obtain ⟨v331, M332, e333, e329⟩ := ob2_some e329
    refine wl_callV3 d_Reader_readStrips_28 lc_Reader_takeWord lv_Reader_130 rfl sh_100 rfl rfl ⟨rfl, rfl⟩ ⟨by decide, by decide⟩ ?_
    refine s_Reader_takeWord (d := d + 1) e333 ?_
    refine wc_eq 46 d_Reader_readStrips_31 rfl (fun h31 => ?_) (fun h31 => ?_)
    · cases e329
      exact k286 (nb_f h31)
    · cases e329
      exact k288 (nb_t h31)
  obtain ⟨x334, M336, e335, e297⟩ := ob2_some e297
  have k343 : x334 = true → wp X (d + 4) f_Reader_readStrips (0, 0) 46 [.ref 100] [] (lay M336) Q := by
    intro x344
    replace e297 := ip e297 x344
    cases e297
    exact k324 rfl
  have k345 : ¬ x334 = true → wp X (d + 4) f_Reader_readStrips (0, 0) 11 [.ref 100] [] (lay M336) Q := by
    intro x346
    replace e297 := inn e297 x346
    obtain ⟨x347, M349, e348, e297⟩ := ob2_some e297
    cases e297
    refine wp_aload_n d_Reader_readStrips_11 rfl rfl ?_
    refine wp_iconst d_Reader_readStrips_12 (v := nI 0) rfl ?_
    refine wp_bipush d_Reader_readStrips_13 (v := nI 11) rfl ?_
    refine wp_iconst d_Reader_readStrips_15 (v := nI 0) rfl ?_
    obtain ⟨v350, M351, e352, e348⟩ := ob2_some e348
    refine wl_callV3 d_Reader_readStrips_16 lc_Reader_takeNumber lv_Reader_146 rfl sh_100 rfl rfl ⟨rfl, rfl⟩ ⟨by decide, by decide⟩ ?_
    refine s_Reader_takeNumber (d := d + 1) e352 ?_
    refine wc_eq 46 d_Reader_readStrips_19 rfl (fun h19 => ?_) (fun h19 => ?_)
    · cases e348
      exact k324 (nb_f h19)
    · cases e348
      exact k326 (nb_t h19)
  obtain ⟨x353, M355, e354, e335⟩ := ob2_some e335
  cases e335
  refine wp_aload_n d_Reader_readStrips_0 rfl rfl ?_
  refine wp_bipush d_Reader_readStrips_1 (v := nI 28) rfl ?_
  refine wp_bipush d_Reader_readStrips_3 (v := nI 28) rfl ?_
  obtain ⟨v356, M357, e358, e354⟩ := ob2_some e354
  refine wl_callV2 d_Reader_readStrips_5 lc_Reader_takeFirst lv_Reader_143 rfl sh_100 rfl rfl ⟨rfl, rfl⟩ ⟨by decide, by decide⟩ ?_
  refine s_Reader_takeFirst (d := d) e358 ?_
  refine wc_eq 46 d_Reader_readStrips_8 rfl (fun h8 => ?_) (fun h8 => ?_)
  · cases e354
    exact k343 (nb_f h8)
  · cases e354
    exact k345 (nb_t h8)
end S144
