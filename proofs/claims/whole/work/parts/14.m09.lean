/-! methods as functions: printed by program -/
section S149
variable {X : mXs} {d z : Nat} {Q : Option Value → mH → Prop}
def L_Wings_tried_1 (z : Nat) (rc : Int32 → Int32 → mM → Option (Int32 × mM)) (c_here : Nat) (n_here : Nat) (c_there : Nat) (n_there : Nat) (c_became : Nat) (n_became : Nat) (point_ : Int32) (used_ : Int32) : Nat → Int32 → Int32 → mM → Option (Int32 × mM)
  | 0, _, _, _ => none
  | n + 1, ways_, to_, M =>
    if to_ < (nI 8) then
    ob2 (ob1 (if ((jshr used_ to_) &&& (nI 1)) = (nI 0) then ob1 (F_Wings_fits z c_here n_here c_there n_there c_became n_became point_ to_ M) fun v44 =>
    some (v44)
    else some (false)) fun x31 =>
    if x31 = true then
    ob1 (wa M c_became n_became point_ to_) fun M38 =>
    ob2 (rc (point_ + (nI 1)) (used_ ||| (jshl (nI 1) to_)) M38) fun v39 M40 =>
    some (ways_ + v39, M40)
    else
    some (ways_, M)) fun ways_28 M29 =>
    L_Wings_tried_1 z rc c_here n_here c_there n_there c_became n_became point_ used_ n ways_28 (to_ + nI 1) M29
    else
    some (ways_, M)
def B_Wings_tried (z : Nat) (rc : Int32 → Int32 → mM → Option (Int32 × mM)) (c_here : Nat) (n_here : Nat) (c_there : Nat) (n_there : Nat) (c_became : Nat) (n_became : Nat) (point_ : Int32) (used_ : Int32) (M : mM) : Option (Int32 × mM) :=
  if ¬ (point_ < (nI 8)) then
  some (nI 1, M)
  else
  ob1 (ob1 (ra M c_here n_here point_) fun v50 =>
  some (decide (v50 = (nI 0)))) fun x1 =>
  if x1 = true then
  ob2 (rc (point_ + (nI 1)) used_ M) fun v7 M8 =>
  some (v7, M8)
  else
  ob2 (L_Wings_tried_1 z rc c_here n_here c_there n_there c_became n_became point_ used_ z (nI 0) (nI 0) M) fun ways_46 M47 =>
  some (ways_46, M47)
def F_Wings_tried (z : Nat) (c_here : Nat) (n_here : Nat) (c_there : Nat) (n_there : Nat) (c_became : Nat) (n_became : Nat) : Nat → Int32 → Int32 → mM → Option (Int32 × mM)
  | 0, _, _, _ => none
  | y + 1, point_, used_, M => B_Wings_tried z (F_Wings_tried z c_here n_here c_there n_there c_became n_became y) c_here n_here c_there n_there c_became n_became point_ used_ M
theorem l_Wings_tried_1 {c_here : Nat} {n_here : Nat} {c_there : Nat} {n_there : Nat} {c_became : Nat} {n_became : Nat} {point_ : Int32} {used_ : Int32} {rc : Int32 → Int32 → mM → Option (Int32 × mM)} (hrc : ∀ {a b : Int32} {M : mM} {r : Int32} {M' : mM} {Q : Option Value → mH → Prop}, rc a b M = some (r, M') → Q (some (.int r)) (lay M') → Sp X (d + 1) f_Wings_tried [.ref c_here, .ref c_there, .ref c_became, .int a, .int b] (lay M) Q)  {ways_r : Int32} {N' : mM} (hs_here : SH[c_here]? = some (0, n_here, [])) (hs_there : SH[c_there]? = some (0, n_there, [])) (hs_became : SH[c_became]? = some (0, n_became, [])) (K : ∀ u6 : Value, wp X (d + 2) f_Wings_tried (0, 0) 93 [.ref c_here, .ref c_there, .ref c_became, .int point_, .int used_, .int ways_r, u6] [] (lay N') Q) : ∀ (n : Nat) (ways_ : Int32) (to_ : Int32) (M : mM), L_Wings_tried_1 z rc c_here n_here c_there n_there c_became n_became point_ used_ n ways_ to_ M = some (ways_r, N') → wp X (d + 2) f_Wings_tried (0, 0) 32 [.ref c_here, .ref c_there, .ref c_became, .int point_, .int used_, .int ways_, .int to_] [] (lay M) Q := by
  intro n
  induction n with
  | zero => intro ways_ to_ M h; exact nn h
  | succ n ih =>
    intro ways_ to_ M h
    refine wp_iload d_Wings_tried_32 rfl ?_
    refine wp_bipush d_Wings_tried_34 (v := nI 8) rfl ?_
    refine wq_icmp_ge 93 d_Wings_tried_36 rfl (fun h36 => ?_) (fun h36 => ?_)
    · replace h := inn h h36
      cases h
      exact K _
    · replace h := ip h h36
      obtain ⟨ways_28, M29, e30, h⟩ := ob2_some h
      have k27 : wp X (d + 2) f_Wings_tried (0, 0) 87 [.ref c_here, .ref c_there, .ref c_became, .int point_, .int used_, .int ways_28, .int to_] [] (lay M29) Q := by
        refine wp_iinc d_Wings_tried_87 (v := to_ + nI 1) rfl rfl ?_
        refine wp_goto 32 d_Wings_tried_90 rfl ?_
        exact ih _ _ _ h
      obtain ⟨x31, e32, e30⟩ := ob1_some e30
      have k35 : x31 = true → wp X (d + 2) f_Wings_tried (0, 0) 61 [.ref c_here, .ref c_there, .ref c_became, .int point_, .int used_, .int ways_, .int to_] [] (lay M) Q := by
        intro x36
        replace e30 := ip e30 x36
        refine wp_aload_n d_Wings_tried_61 rfl rfl ?_
        refine wp_iload_n d_Wings_tried_62 rfl rfl ?_
        refine wp_iload d_Wings_tried_63 rfl ?_
        obtain ⟨M38, e37, e30⟩ := ob1_some e30
        refine wa_ast d_Wings_tried_65 hs_became e37 ?_
        refine wp_iload d_Wings_tried_66 rfl ?_
        refine wp_aload_n d_Wings_tried_68 rfl rfl ?_
        refine wp_aload_n d_Wings_tried_69 rfl rfl ?_
        refine wp_aload_n d_Wings_tried_70 rfl rfl ?_
        refine wp_iload_n d_Wings_tried_71 rfl rfl ?_
        refine wp_iconst d_Wings_tried_72 (v := nI 1) rfl ?_
        refine wp_iadd d_Wings_tried_73 ?_
        refine wp_iload d_Wings_tried_74 rfl ?_
        refine wp_iconst d_Wings_tried_76 (v := nI 1) rfl ?_
        refine wp_iload d_Wings_tried_77 rfl ?_
        refine wp_ishl d_Wings_tried_79 ?_
        refine wp_ior d_Wings_tried_80 ?_
        obtain ⟨v39, M40, e41, e30⟩ := ob2_some e30
        refine wl_callS5 d_Wings_tried_81 lc_Wings_tried ls_Wings_29 rfl ⟨rfl, rfl⟩ ⟨by decide, by decide⟩ ?_
        refine hrc e41 ?_
        refine wp_iadd d_Wings_tried_84 ?_
        refine wp_istore d_Wings_tried_85 (by decide) ?_
        cases e30
        exact k27
      have k42 : ¬ x31 = true → wp X (d + 2) f_Wings_tried (0, 0) 87 [.ref c_here, .ref c_there, .ref c_became, .int point_, .int used_, .int ways_, .int to_] [] (lay M) Q := by
        intro x43
        replace e30 := inn e30 x43
        cases e30
        exact k27
      refine wp_iload d_Wings_tried_39 rfl ?_
      refine wp_iload d_Wings_tried_41 rfl ?_
      refine wp_ishr d_Wings_tried_43 ?_
      refine wp_iconst d_Wings_tried_44 (v := nI 1) rfl ?_
      refine wp_iand d_Wings_tried_45 ?_
      refine wz_ne 87 d_Wings_tried_46 rfl (fun h46 => ?_) (fun h46 => ?_)
      · replace e32 := inn e32 h46
        cases e32
        exact k42 (fun z => Bool.noConfusion z)
      · replace e32 := ip e32 h46
        refine wp_aload_n d_Wings_tried_49 rfl rfl ?_
        refine wp_aload_n d_Wings_tried_50 rfl rfl ?_
        refine wp_aload_n d_Wings_tried_51 rfl rfl ?_
        refine wp_iload_n d_Wings_tried_52 rfl rfl ?_
        refine wp_iload d_Wings_tried_53 rfl ?_
        obtain ⟨v44, e45, e32⟩ := ob1_some e32
        refine wl_callS5 d_Wings_tried_55 lc_Wings_fits ls_Wings_49 rfl ⟨rfl, rfl⟩ ⟨by decide, by decide⟩ ?_
        refine s_Wings_fits (d := d) hs_here hs_there hs_became e45 ?_
        refine wc_eq 87 d_Wings_tried_58 rfl (fun h58 => ?_) (fun h58 => ?_)
        · cases e32
          exact k42 h58
        · cases e32
          exact k35 h58
theorem b_Wings_tried {c_here : Nat} {n_here : Nat} {c_there : Nat} {n_there : Nat} {c_became : Nat} {n_became : Nat} {point_ : Int32} {used_ : Int32} {M : mM} {r : Int32} {M' : mM} (hs_here : SH[c_here]? = some (0, n_here, [])) (hs_there : SH[c_there]? = some (0, n_there, [])) (hs_became : SH[c_became]? = some (0, n_became, [])) {rc : Int32 → Int32 → mM → Option (Int32 × mM)} (hrc : ∀ {a b : Int32} {M : mM} {r : Int32} {M' : mM} {Q : Option Value → mH → Prop}, rc a b M = some (r, M') → Q (some (.int r)) (lay M') → Sp X (d + 1) f_Wings_tried [.ref c_here, .ref c_there, .ref c_became, .int a, .int b] (lay M) Q) (h : B_Wings_tried z rc c_here n_here c_there n_there c_became n_became point_ used_ M = some (r, M')) (hq : Q (some (.int r)) (lay M')) : Sp X (d + 2) f_Wings_tried [.ref c_here, .ref c_there, .ref c_became, .int point_, .int used_] (lay M) Q := by
  refine Sp_of (by decide) rfl (Nat.le_of_ble_eq_true rfl) ?_
  refine wp_iload_n d_Wings_tried_0 rfl rfl ?_
  refine wp_bipush d_Wings_tried_1 (v := nI 8) rfl ?_
  refine wq_icmp_lt 8 d_Wings_tried_3 rfl (fun h3 => ?_) (fun h3 => ?_)
  · replace h := inn h (fun z => z h3)
    obtain ⟨x1, e2, h⟩ := ob1_some h
    have k5 : ∀ u5 u6 : Value, x1 = true → wp X (d + 2) f_Wings_tried (0, 0) 14 [.ref c_here, .ref c_there, .ref c_became, .int point_, .int used_, u5, u6] [] (lay M) Q := by
      intro u5 u6 x6
      replace h := ip h x6
      refine wp_aload_n d_Wings_tried_14 rfl rfl ?_
      refine wp_aload_n d_Wings_tried_15 rfl rfl ?_
      refine wp_aload_n d_Wings_tried_16 rfl rfl ?_
      refine wp_iload_n d_Wings_tried_17 rfl rfl ?_
      refine wp_iconst d_Wings_tried_18 (v := nI 1) rfl ?_
      refine wp_iadd d_Wings_tried_19 ?_
      refine wp_iload d_Wings_tried_20 rfl ?_
      obtain ⟨v7, M8, e9, h⟩ := ob2_some h
      refine wl_callS5 d_Wings_tried_22 lc_Wings_tried ls_Wings_29 rfl ⟨rfl, rfl⟩ ⟨by decide, by decide⟩ ?_
      refine hrc e9 ?_
      cases h
      exact wp_iret d_Wings_tried_25 rfl rfl rfl hq
    have k10 : ∀ u5 u6 : Value, ¬ x1 = true → wp X (d + 2) f_Wings_tried (0, 0) 26 [.ref c_here, .ref c_there, .ref c_became, .int point_, .int used_, u5, u6] [] (lay M) Q := by
      intro u5 u6 x11
      replace h := inn h x11
      refine wp_iconst d_Wings_tried_26 (v := nI 0) rfl ?_
      refine wp_istore d_Wings_tried_27 (by decide) ?_
      refine wp_iconst d_Wings_tried_29 (v := nI 0) rfl ?_
      refine wp_istore d_Wings_tried_30 (by decide) ?_
      obtain ⟨ways_46, M47, e48, h⟩ := ob2_some h
      refine l_Wings_tried_1 hrc hs_here hs_there hs_became ?_ _ _ _ _ e48
      intro u6
      refine wp_iload d_Wings_tried_93 rfl ?_
      cases h
      exact wp_iret d_Wings_tried_95 rfl rfl rfl hq
    refine wp_aload_n d_Wings_tried_8 rfl rfl ?_
    refine wp_iload_n d_Wings_tried_9 rfl rfl ?_
    obtain ⟨v50, e49, e2⟩ := ob1_some e2
    refine wa_ald d_Wings_tried_10 hs_here e49 ?_
    refine wz_ne 26 d_Wings_tried_11 rfl (fun h11 => ?_) (fun h11 => ?_)
    · cases e2
      exact k10 _ _ (fun z => h11 (of_decide_eq_true z))
    · cases e2
      exact k5 _ _ (decide_eq_true h11)
  · replace h := ip h h3
    refine wp_iconst d_Wings_tried_6 (v := nI 1) rfl ?_
    cases h
    exact wp_iret d_Wings_tried_7 rfl rfl rfl hq
theorem s_Wings_tried {c_here n_here c_there n_there c_became n_became : Nat} {point_ used_ : Int32} {M : mM} {r : Int32} {M' : mM} (hs_here : SH[c_here]? = some (0, n_here, [])) (hs_there : SH[c_there]? = some (0, n_there, [])) (hs_became : SH[c_became]? = some (0, n_became, [])) (h : F_Wings_tried z c_here n_here c_there n_there c_became n_became 12 point_ used_ M = some (r, M')) (hq : Q (some (.int r)) (lay M')) : Sp X (d + 14) f_Wings_tried [.ref c_here, .ref c_there, .ref c_became, .int point_, .int used_] (lay M) Q := by
  have key : ∀ (y : Nat) {d : Nat} {a b : Int32} {M : mM} {r : Int32} {M' : mM} {Q : Option Value → mH → Prop}, F_Wings_tried z c_here n_here c_there n_there c_became n_became y a b M = some (r, M') → Q (some (.int r)) (lay M') → Sp X (d + y + 2) f_Wings_tried [.ref c_here, .ref c_there, .ref c_became, .int a, .int b] (lay M) Q := by
    intro y
    induction y with
    | zero => intro d a b M r M' Q h hq; exact nn h
    | succ y ih =>
      intro d a b M r M' Q h hq
      refine b_Wings_tried (d := d + (y + 1)) (rc := F_Wings_tried z c_here n_here c_there n_there c_became n_became y) hs_here hs_there hs_became (fun h1 h2 => ?_) h hq
      exact ih h1 h2
  exact key 12 h hq
def L_Wings_numberings_1 (z : Nat) (r_veins : Nat) (wd_veins : Nat) (mo_veins : Nat) (r_otherVeins : Nat) (wd_otherVeins : Nat) (mo_otherVeins : Nat) (bare_ : Int32) (M : mM) : Nat → Int32 → Int32 → Option (Int32)
  | 0, _, _ => none
  | n + 1, ways_, i_ =>
    if ¬ (bare_ < i_) then
    L_Wings_numberings_1 z r_veins wd_veins mo_veins r_otherVeins wd_otherVeins mo_otherVeins bare_ M n (ways_ * i_) (i_ + nI 1)
    else
    some (ways_)
def F_Wings_numberings (z : Nat) (r_veins : Nat) (wd_veins : Nat) (mo_veins : Nat) (r_otherVeins : Nat) (wd_otherVeins : Nat) (mo_otherVeins : Nat) (M : mM) : Option (Int32 × mM) :=
  ob1 (F_Wings_learn z r_veins wd_veins mo_veins 147 8 M) fun M1 =>
  ob1 (F_Wings_learn z r_otherVeins wd_otherVeins mo_otherVeins 148 8 M1) fun M3 =>
  ob1 (F_Wings_bare z 147 8 M3) fun v5 =>
  ob1 (ob1 (F_Wings_bare z 148 8 M3) fun v20 =>
  some (decide (¬ (v5 = v20)))) fun x7 =>
  if x7 = true then
  some (nI 0, M3)
  else
  ob2 (F_Wings_tried z 147 8 148 8 149 8 12 (nI 0) (nI 0) M3) fun v15 M16 =>
  ob1 (L_Wings_numberings_1 z r_veins wd_veins mo_veins r_otherVeins wd_otherVeins mo_otherVeins v5 M16 z v15 (nI 2)) fun ways_18 =>
  some (ways_18, M16)
theorem l_Wings_numberings_1 {r_veins : Nat} {wd_veins : Nat} {mo_veins : Nat} {r_otherVeins : Nat} {wd_otherVeins : Nat} {mo_otherVeins : Nat} {bare_ : Int32} {M : mM}  {ways_r : Int32} (hr_veins : isR r_veins wd_veins mo_veins) (hr_otherVeins : isR r_otherVeins wd_otherVeins mo_otherVeins) (K : ∀ u5 : Value, wp X (d + 15) f_Wings_numberings (0, 0) 78 [.ref 146, .ref r_veins, .ref r_otherVeins, .int bare_, .int ways_r, u5] [] (lay M) Q) : ∀ (n : Nat) (ways_ : Int32) (i_ : Int32), L_Wings_numberings_1 z r_veins wd_veins mo_veins r_otherVeins wd_otherVeins mo_otherVeins bare_ M n ways_ i_ = some (ways_r) → wp X (d + 15) f_Wings_numberings (0, 0) 59 [.ref 146, .ref r_veins, .ref r_otherVeins, .int bare_, .int ways_, .int i_] [] (lay M) Q := by
  intro n
  induction n with
  | zero => intro ways_ i_ h; exact nn h
  | succ n ih =>
    intro ways_ i_ h
    refine wp_iload d_Wings_numberings_59 rfl ?_
    refine wp_iload_n d_Wings_numberings_61 rfl rfl ?_
    refine wq_icmp_gt 78 d_Wings_numberings_62 rfl (fun h62 => ?_) (fun h62 => ?_)
    · replace h := inn h (fun z => z h62)
      cases h
      exact K _
    · replace h := ip h h62
      refine wp_iload d_Wings_numberings_65 rfl ?_
      refine wp_iload d_Wings_numberings_67 rfl ?_
      refine wp_imul d_Wings_numberings_69 ?_
      refine wp_istore d_Wings_numberings_70 (by decide) ?_
      refine wp_iinc d_Wings_numberings_72 (v := i_ + nI 1) rfl rfl ?_
      refine wp_goto 59 d_Wings_numberings_75 rfl ?_
      exact ih _ _ h
theorem s_Wings_numberings {r_veins : Nat} {wd_veins : Nat} {mo_veins : Nat} {r_otherVeins : Nat} {wd_otherVeins : Nat} {mo_otherVeins : Nat} {M : mM} {r : Int32} {M' : mM} (hr_veins : isR r_veins wd_veins mo_veins) (hr_otherVeins : isR r_otherVeins wd_otherVeins mo_otherVeins) (h : F_Wings_numberings z r_veins wd_veins mo_veins r_otherVeins wd_otherVeins mo_otherVeins M = some (r, M')) (hq : Q (some (.int r)) (lay M')) : Sp X (d + 15) f_Wings_numberings [.ref 146, .ref r_veins, .ref r_otherVeins] (lay M) Q := by
  refine Sp_of (by decide) rfl (Nat.le_of_ble_eq_true rfl) ?_
  refine wp_aload_n d_Wings_numberings_0 rfl rfl ?_
  refine wp_aload_n d_Wings_numberings_1 rfl rfl ?_
  refine wl_getR d_Wings_numberings_2 lf_Wings_9 sh_146 rfl ?_
  obtain ⟨M1, e2, h⟩ := ob1_some h
  refine wl_callS2 d_Wings_numberings_5 lc_Wings_learn ls_Wings_21 rfl ⟨rfl, rfl⟩ ⟨by decide, by decide⟩ ?_
  refine s_Wings_learn (d := d + 13) hr_veins sh_147 e2 ?_
  refine wp_aload_n d_Wings_numberings_8 rfl rfl ?_
  refine wp_aload_n d_Wings_numberings_9 rfl rfl ?_
  refine wl_getR d_Wings_numberings_10 lf_Wings_15 sh_146 rfl ?_
  obtain ⟨M3, e4, h⟩ := ob1_some h
  refine wl_callS2 d_Wings_numberings_13 lc_Wings_learn ls_Wings_21 rfl ⟨rfl, rfl⟩ ⟨by decide, by decide⟩ ?_
  refine s_Wings_learn (d := d + 13) hr_otherVeins sh_148 e4 ?_
  refine wp_aload_n d_Wings_numberings_16 rfl rfl ?_
  refine wl_getR d_Wings_numberings_17 lf_Wings_9 sh_146 rfl ?_
  obtain ⟨v5, e6, h⟩ := ob1_some h
  refine wl_callS1 d_Wings_numberings_20 lc_Wings_bare ls_Wings_25 rfl ⟨rfl, rfl⟩ ⟨by decide, by decide⟩ ?_
  refine s_Wings_bare (d := d + 14) sh_147 e6 ?_
  refine wp_istore_n d_Wings_numberings_23 rfl (by decide) ?_
  obtain ⟨x7, e8, h⟩ := ob1_some h
  have k11 : ∀ u4 u5 : Value, x7 = true → wp X (d + 15) f_Wings_numberings (0, 0) 35 [.ref 146, .ref r_veins, .ref r_otherVeins, .int v5, u4, u5] [] (lay M3) Q := by
    intro u4 u5 x12
    replace h := ip h x12
    refine wp_iconst d_Wings_numberings_35 (v := nI 0) rfl ?_
    cases h
    exact wp_iret d_Wings_numberings_36 rfl rfl rfl hq
  have k13 : ∀ u4 u5 : Value, ¬ x7 = true → wp X (d + 15) f_Wings_numberings (0, 0) 37 [.ref 146, .ref r_veins, .ref r_otherVeins, .int v5, u4, u5] [] (lay M3) Q := by
    intro u4 u5 x14
    replace h := inn h x14
    refine wp_aload_n d_Wings_numberings_37 rfl rfl ?_
    refine wl_getR d_Wings_numberings_38 lf_Wings_9 sh_146 rfl ?_
    refine wp_aload_n d_Wings_numberings_41 rfl rfl ?_
    refine wl_getR d_Wings_numberings_42 lf_Wings_15 sh_146 rfl ?_
    refine wp_aload_n d_Wings_numberings_45 rfl rfl ?_
    refine wl_getR d_Wings_numberings_46 lf_Wings_18 sh_146 rfl ?_
    refine wp_iconst d_Wings_numberings_49 (v := nI 0) rfl ?_
    refine wp_iconst d_Wings_numberings_50 (v := nI 0) rfl ?_
    obtain ⟨v15, M16, e17, h⟩ := ob2_some h
    refine wl_callS5 d_Wings_numberings_51 lc_Wings_tried ls_Wings_29 rfl ⟨rfl, rfl⟩ ⟨by decide, by decide⟩ ?_
    refine s_Wings_tried (d := d) sh_147 sh_148 sh_149 e17 ?_
    refine wp_istore d_Wings_numberings_54 (by decide) ?_
    refine wp_iconst d_Wings_numberings_56 (v := nI 2) rfl ?_
    refine wp_istore d_Wings_numberings_57 (by decide) ?_
    obtain ⟨ways_18, e19, h⟩ := ob1_some h
    refine l_Wings_numberings_1 hr_veins hr_otherVeins ?_ _ _ _ e19
    intro u5
    refine wp_iload d_Wings_numberings_78 rfl ?_
    cases h
    exact wp_iret d_Wings_numberings_80 rfl rfl rfl hq
  refine wp_iload_n d_Wings_numberings_24 rfl rfl ?_
  refine wp_aload_n d_Wings_numberings_25 rfl rfl ?_
  refine wl_getR d_Wings_numberings_26 lf_Wings_15 sh_146 rfl ?_
  obtain ⟨v20, e21, e8⟩ := ob1_some e8
  refine wl_callS1 d_Wings_numberings_29 lc_Wings_bare ls_Wings_25 rfl ⟨rfl, rfl⟩ ⟨by decide, by decide⟩ ?_
  refine s_Wings_bare (d := d + 14) sh_148 e21 ?_
  refine wq_icmp_eq 37 d_Wings_numberings_32 rfl (fun h32 => ?_) (fun h32 => ?_)
  · cases e8
    exact k13 _ _ (fun z => (fun z => z h32) (of_decide_eq_true z))
  · cases e8
    exact k11 _ _ (decide_eq_true h32)
def F_Rec_wings (z : Nat) (what_ : Int32) (M : mM) : Option (Int32 × mM) :=
  if ¬ ((F_Rec_within what_ (nI 0) (nI 1)) = true) then
  some ((-1), M)
  else
  ob2 (F_Wings_numberings z 46 2 9 48 2 9 M) fun v1 M2 =>
  some ((if what_ = (nI 1) then v1 else (if (nI 0) < v1 then nI 1 else nI 0)), M2)
theorem s_Rec_wings {what_ : Int32} {M : mM} {r : Int32} {M' : mM} (h : F_Rec_wings z what_ M = some (r, M')) (hq : Q (some (.int r)) (lay M')) : Sp X (d + 16) f_Rec_wings [.ref 0, .int what_] (lay M) Q := by
  refine Sp_of (by decide) rfl (Nat.le_of_ble_eq_true rfl) ?_
  refine wp_iload_n d_Rec_wings_0 rfl rfl ?_
  refine wp_iconst d_Rec_wings_1 (v := nI 0) rfl ?_
  refine wp_iconst d_Rec_wings_2 (v := nI 1) rfl ?_
  refine wl_callS3 d_Rec_wings_3 lc_Rec_within ls_Rec_96 rfl ⟨rfl, rfl⟩ ⟨by decide, by decide⟩ ?_
  refine s_Rec_within (d := d + 15) rfl ?_
  refine wc_ne 11 d_Rec_wings_6 rfl (fun h6 => ?_) (fun h6 => ?_)
  · replace h := inn h (fun z => z h6)
    refine wp_aload_n d_Rec_wings_11 rfl rfl ?_
    refine wl_getR d_Rec_wings_12 lf_Rec_71 sh_0 rfl ?_
    refine wp_aload_n d_Rec_wings_15 rfl rfl ?_
    refine wl_getR d_Rec_wings_16 lf_Rec_19 sh_0 rfl ?_
    refine wl_getR d_Rec_wings_19 lf_Rec_294 (shT0 isTd_28) rfl ?_
    refine wp_aload_n d_Rec_wings_22 rfl rfl ?_
    refine wl_getR d_Rec_wings_23 lf_Rec_19 sh_0 rfl ?_
    refine wl_getR d_Rec_wings_26 lf_Rec_297 (shT0 isTd_28) rfl ?_
    obtain ⟨v1, M2, e3, h⟩ := ob2_some h
    refine wl_callV2 d_Rec_wings_29 lc_Wings_numberings lv_Rec_300 rfl sh_146 rfl rfl ⟨rfl, rfl⟩ ⟨by decide, by decide⟩ ?_
    refine s_Wings_numberings (d := d) (isR_veins isTd_28) (isR_otherVeins isTd_28) e3 ?_
    refine wp_istore_n d_Rec_wings_32 rfl (by decide) ?_
    have k5 : wp X (d + 16) f_Rec_wings (0, 0) 51 [.ref 0, .int what_, .int v1] [.int (if what_ = (nI 1) then v1 else (if (nI 0) < v1 then nI 1 else nI 0))] (lay M2) Q := by
      cases h
      exact wp_iret d_Rec_wings_51 rfl rfl rfl hq
    refine wp_iload_n d_Rec_wings_33 rfl rfl ?_
    refine wp_iconst d_Rec_wings_34 (v := nI 1) rfl ?_
    refine wq_icmp_ne 42 d_Rec_wings_35 rfl (fun h35 => ?_) (fun h35 => ?_)
    · have k6 : wp X (d + 16) f_Rec_wings (0, 0) 51 [.ref 0, .int what_, .int v1] [.int (if (nI 0) < v1 then nI 1 else nI 0)] (lay M2) Q := by
        exact wj_in h35 (k5)
      refine wp_iload_n d_Rec_wings_42 rfl rfl ?_
      refine wz_le 50 d_Rec_wings_43 rfl (fun h43 => ?_) (fun h43 => ?_)
      · refine wp_iconst d_Rec_wings_50 (v := nI 0) rfl ?_
        exact wj_in h43 (k6)
      · refine wp_iconst d_Rec_wings_46 (v := nI 1) rfl ?_
        refine wp_goto 51 d_Rec_wings_47 rfl ?_
        exact wj_ip h43 (k6)
    · refine wp_iload_n d_Rec_wings_38 rfl rfl ?_
      refine wp_goto 51 d_Rec_wings_39 rfl ?_
      exact wj_ip h35 (k5)
  · replace h := ip h h6
    refine wp_iconst d_Rec_wings_9 (v := (-1)) rfl ?_
    cases h
    exact wp_iret d_Rec_wings_10 rfl rfl rfl hq
def F_Dates_monthDays (year_ : Int32) (month_ : Int32) (M : mM) : Option (Int32) :=
  ob1 (some (decide (((jrem year_ (nI 4)) = (nI 0) ∧ (¬ ((jrem year_ (nI 100)) = (nI 0)) ∨ (jrem year_ (nI 400)) = (nI 0)))))) fun x2 =>
  ob1 (if (month_ = (nI 2) ∧ x2 = true) then
  some (nI 29)
  else
  ob1 (if (¬ (month_ < (nI 1)) ∧ ¬ ((nI 12) < month_)) then
  ob1 (rxs xMonths 12 (month_ - (nI 1))) fun v32 =>
  some (v32)
  else
  some (nI 0)) fun v27 =>
  some (v27)) fun v18 =>
  some (v18)
theorem s_Dates_monthDays {year_ : Int32} {month_ : Int32} {M : mM} {r : Int32} (h : F_Dates_monthDays year_ month_ M = some r) (hq : Q (some (.int r)) (lay M)) : Sp X d f_Dates_monthDays [.int year_, .int month_] (lay M) Q := by
  refine Sp_of (by decide) rfl (Nat.le_of_ble_eq_true rfl) ?_
  have k1 : ∀ u2 : Value, wp X d f_Dates_monthDays (0, 0) 26 [.int year_, .int month_, u2] [.int (bI (decide (((jrem year_ (nI 4)) = (nI 0) ∧ (¬ ((jrem year_ (nI 100)) = (nI 0)) ∨ (jrem year_ (nI 400)) = (nI 0))))))] (lay M) Q := by
    intro u2
    obtain ⟨x2, e3, h⟩ := ob1_some h
    refine wx_bool e3 ?_
    refine wp_istore_n d_Dates_monthDays_26 rfl (by decide) ?_
    obtain ⟨v18, e19, h⟩ := ob1_some h
    have k17 : wp X d f_Dates_monthDays (0, 0) 63 [.int year_, .int month_, .int (bI x2)] [.int v18] (lay M) Q := by
      cases h
      exact wp_iret d_Dates_monthDays_63 rfl rfl rfl hq
    have k20 : ¬ (month_ = (nI 2) ∧ x2 = true) → wp X d f_Dates_monthDays (0, 0) 41 [.int year_, .int month_, .int (bI x2)] [] (lay M) Q := by
      intro x21
      replace e19 := inn e19 x21
      obtain ⟨v27, e28, e19⟩ := ob1_some e19
      have k26 : wp X d f_Dates_monthDays (0, 0) 63 [.int year_, .int month_, .int (bI x2)] [.int v27] (lay M) Q := by
        cases e19
        exact k17
      have k29 : ¬ (¬ (month_ < (nI 1)) ∧ ¬ ((nI 12) < month_)) → wp X d f_Dates_monthDays (0, 0) 62 [.int year_, .int month_, .int (bI x2)] [] (lay M) Q := by
        intro x30
        replace e28 := inn e28 x30
        refine wp_iconst d_Dates_monthDays_62 (v := nI 0) rfl ?_
        cases e28
        exact k26
      refine wp_iload_n d_Dates_monthDays_41 rfl rfl ?_
      refine wp_iconst d_Dates_monthDays_42 (v := nI 1) rfl ?_
      refine wq_icmp_lt 62 d_Dates_monthDays_43 rfl (fun h43 => ?_) (fun h43 => ?_)
      · exact k29 (fun z => (fun z => z h43) z.1)
      · refine wp_iload_n d_Dates_monthDays_46 rfl rfl ?_
        refine wp_bipush d_Dates_monthDays_47 (v := nI 12) rfl ?_
        refine wq_icmp_gt 62 d_Dates_monthDays_49 rfl (fun h49 => ?_) (fun h49 => ?_)
        · exact k29 (fun z => (fun z => z h49) z.2)
        · replace e28 := ip e28 ⟨h43, h49⟩
          refine wp_xget1 d_Dates_monthDays_52 lx_Dates_19 ?_
          refine wp_iload_n d_Dates_monthDays_55 rfl rfl ?_
          refine wp_iconst d_Dates_monthDays_56 (v := nI 1) rfl ?_
          refine wp_isub d_Dates_monthDays_57 ?_
          obtain ⟨v32, e31, e28⟩ := ob1_some e28
          refine wx_ald d_Dates_monthDays_58 (k := 1) (by decide) rfl rfl e31 ?_
          cases e28
          refine wp_goto 63 d_Dates_monthDays_59 rfl ?_
          exact k26
    refine wp_iload_n d_Dates_monthDays_27 rfl rfl ?_
    refine wp_iconst d_Dates_monthDays_28 (v := nI 2) rfl ?_
    refine wq_icmp_ne 41 d_Dates_monthDays_29 rfl (fun h29 => ?_) (fun h29 => ?_)
    · exact k20 (fun z => h29 z.1)
    · refine wp_iload_n d_Dates_monthDays_32 rfl rfl ?_
      refine wc_eq 41 d_Dates_monthDays_33 rfl (fun h33 => ?_) (fun h33 => ?_)
      · exact k20 (fun z => h33 z.2)
      · replace e19 := ip e19 ⟨h29, h33⟩
        refine wp_bipush d_Dates_monthDays_36 (v := nI 29) rfl ?_
        cases e19
        refine wp_goto 63 d_Dates_monthDays_38 rfl ?_
        exact k17
  refine wp_iload_n d_Dates_monthDays_0 rfl rfl ?_
  refine wp_iconst d_Dates_monthDays_1 (v := nI 4) rfl ?_
  refine wp_irem d_Dates_monthDays_2 (by decide) ?_
  refine wz_ne 25 d_Dates_monthDays_3 rfl (fun h3 => ?_) (fun h3 => ?_)
  · refine wp_iconst d_Dates_monthDays_25 (v := nI 0) rfl ?_
    exact wj_f (fun z => h3 z.1) (k1 _)
  · refine wp_iload_n d_Dates_monthDays_6 rfl rfl ?_
    refine wp_bipush d_Dates_monthDays_7 (v := nI 100) rfl ?_
    refine wp_irem d_Dates_monthDays_9 (by decide) ?_
    refine wz_ne 21 d_Dates_monthDays_10 rfl (fun h10 => ?_) (fun h10 => ?_)
    · refine wp_iconst d_Dates_monthDays_21 (v := nI 1) rfl ?_
      refine wp_goto 26 d_Dates_monthDays_22 rfl ?_
      exact wj_t ⟨h3, (Or.inl h10)⟩ (k1 _)
    · refine wp_iload_n d_Dates_monthDays_13 rfl rfl ?_
      refine wp_sipush d_Dates_monthDays_14 (v := nI 400) rfl ?_
      refine wp_irem d_Dates_monthDays_17 (by decide) ?_
      refine wz_ne 25 d_Dates_monthDays_18 rfl (fun h18 => ?_) (fun h18 => ?_)
      · refine wp_iconst d_Dates_monthDays_25 (v := nI 0) rfl ?_
        exact wj_f (fun z => (fun z => z.elim (fun z => z h10) h18) z.2) (k1 _)
      · refine wp_iconst d_Dates_monthDays_21 (v := nI 1) rfl ?_
        refine wp_goto 26 d_Dates_monthDays_22 rfl ?_
        exact wj_t ⟨h3, (Or.inr h18)⟩ (k1 _)
def L_Dates_dayNumber_1 (z : Nat) (year_ : Int32) (month_ : Int32) (M : mM) : Nat → Int32 → Int32 → Option (Int32)
  | 0, _, _ => none
  | n + 1, days_, m_ =>
    if m_ < month_ then
    ob1 (F_Dates_monthDays year_ m_ M) fun v17 =>
    L_Dates_dayNumber_1 z year_ month_ M n (days_ + v17) (m_ + nI 1)
    else
    some (days_)
def F_Dates_dayNumber (z : Nat) (date_ : Int32) (M : mM) : Option (Int32) :=
  ob1 (some (jrem (date_ / (nI 100)) (nI 100))) fun v1 =>
  ob1 (if (¬ ((F_Rec_within (date_ / (nI 10000)) (nI 1700) (nI 2099)) = true) ∨ ¬ ((F_Rec_within v1 (nI 1) (nI 12)) = true)) then some (true)
  else ob1 (ob1 (F_Dates_monthDays (date_ / (nI 10000)) v1 M) fun v23 =>
  some (F_Rec_within (jrem date_ (nI 100)) (nI 1) v23)) fun x21 => some (!x21)) fun x3 =>
  if x3 = true then
  some ((-1))
  else
  ob1 (some ((date_ / (nI 10000)) - (nI 1))) fun v13 =>
  ob1 (some ((((((nI 365) * v13) + (v13 / (nI 4))) - (v13 / (nI 100))) + (v13 / (nI 400))) + (jrem date_ (nI 100)))) fun v15 =>
  ob1 (L_Dates_dayNumber_1 z (date_ / (nI 10000)) v1 M z v15 (nI 1)) fun days_19 =>
  some (days_19)
theorem l_Dates_dayNumber_1 {year_ : Int32} {month_ : Int32} {M : mM}  {q0 : Value} {q3 : Value} {q4 : Value} {days_r : Int32} (K : ∀ u6 : Value, wp X (d + 1) f_Dates_dayNumber (0, 0) 116 [q0, .int year_, .int month_, q3, q4, .int days_r, u6] [] (lay M) Q) : ∀ (n : Nat) (days_ : Int32) (m_ : Int32), L_Dates_dayNumber_1 z year_ month_ M n days_ m_ = some (days_r) → wp X (d + 1) f_Dates_dayNumber (0, 0) 93 [q0, .int year_, .int month_, q3, q4, .int days_, .int m_] [] (lay M) Q := by
  intro n
  induction n with
  | zero => intro days_ m_ h; exact nn h
  | succ n ih =>
    intro days_ m_ h
    refine wp_iload d_Dates_dayNumber_93 rfl ?_
    refine wp_iload_n d_Dates_dayNumber_95 rfl rfl ?_
    refine wq_icmp_ge 116 d_Dates_dayNumber_96 rfl (fun h96 => ?_) (fun h96 => ?_)
    · replace h := inn h h96
      cases h
      exact K _
    · replace h := ip h h96
      refine wp_iload d_Dates_dayNumber_99 rfl ?_
      refine wp_iload_n d_Dates_dayNumber_101 rfl rfl ?_
      refine wp_iload d_Dates_dayNumber_102 rfl ?_
      obtain ⟨v17, e18, h⟩ := ob1_some h
      refine wl_callS2 d_Dates_dayNumber_104 lc_Dates_monthDays ls_Dates_13 rfl ⟨rfl, rfl⟩ ⟨by decide, by decide⟩ ?_
      refine s_Dates_monthDays (d := d) e18 ?_
      refine wp_iadd d_Dates_dayNumber_107 ?_
      refine wp_istore d_Dates_dayNumber_108 (by decide) ?_
      refine wp_iinc d_Dates_dayNumber_110 (v := m_ + nI 1) rfl rfl ?_
      refine wp_goto 93 d_Dates_dayNumber_113 rfl ?_
      exact ih _ _ h
theorem s_Dates_dayNumber {date_ : Int32} {M : mM} {r : Int32} (h : F_Dates_dayNumber z date_ M = some r) (hq : Q (some (.int r)) (lay M)) : Sp X (d + 1) f_Dates_dayNumber [.int date_] (lay M) Q := by
  refine Sp_of (by decide) rfl (Nat.le_of_ble_eq_true rfl) ?_
  refine wp_iload_n d_Dates_dayNumber_0 rfl rfl ?_
  refine wp_sipush d_Dates_dayNumber_1 (v := nI 10000) rfl ?_
  refine wp_idiv d_Dates_dayNumber_4 (by decide) ?_
  refine wp_istore_n d_Dates_dayNumber_5 rfl (by decide) ?_
  refine wp_iload_n d_Dates_dayNumber_6 rfl rfl ?_
  refine wp_bipush d_Dates_dayNumber_7 (v := nI 100) rfl ?_
  refine wp_idiv d_Dates_dayNumber_9 (by decide) ?_
  refine wp_bipush d_Dates_dayNumber_10 (v := nI 100) rfl ?_
  refine wp_irem d_Dates_dayNumber_12 (by decide) ?_
  obtain ⟨v1, e2, h⟩ := ob1_some h
  refine wx_int e2 ?_
  refine wp_istore_n d_Dates_dayNumber_13 rfl (by decide) ?_
  refine wp_iload_n d_Dates_dayNumber_14 rfl rfl ?_
  refine wp_bipush d_Dates_dayNumber_15 (v := nI 100) rfl ?_
  refine wp_irem d_Dates_dayNumber_17 (by decide) ?_
  refine wp_istore_n d_Dates_dayNumber_18 rfl (by decide) ?_
  obtain ⟨x3, e4, h⟩ := ob1_some h
  have k9 : ∀ u4 u5 u6 : Value, x3 = true → wp X (d + 1) f_Dates_dayNumber (0, 0) 55 [.int date_, .int (date_ / (nI 10000)), .int v1, .int (jrem date_ (nI 100)), u4, u5, u6] [] (lay M) Q := by
    intro u4 u5 u6 x10
    replace h := ip h x10
    refine wp_iconst d_Dates_dayNumber_55 (v := (-1)) rfl ?_
    cases h
    exact wp_iret d_Dates_dayNumber_56 rfl rfl rfl hq
  have k11 : ∀ u4 u5 u6 : Value, ¬ x3 = true → wp X (d + 1) f_Dates_dayNumber (0, 0) 57 [.int date_, .int (date_ / (nI 10000)), .int v1, .int (jrem date_ (nI 100)), u4, u5, u6] [] (lay M) Q := by
    intro u4 u5 u6 x12
    replace h := inn h x12
    refine wp_iload_n d_Dates_dayNumber_57 rfl rfl ?_
    refine wp_iconst d_Dates_dayNumber_58 (v := nI 1) rfl ?_
    refine wp_isub d_Dates_dayNumber_59 ?_
    obtain ⟨v13, e14, h⟩ := ob1_some h
    refine wx_int e14 ?_
    refine wp_istore d_Dates_dayNumber_60 (by decide) ?_
    refine wp_sipush d_Dates_dayNumber_62 (v := nI 365) rfl ?_
    refine wp_iload d_Dates_dayNumber_65 rfl ?_
    refine wp_imul d_Dates_dayNumber_67 ?_
    refine wp_iload d_Dates_dayNumber_68 rfl ?_
    refine wp_iconst d_Dates_dayNumber_70 (v := nI 4) rfl ?_
    refine wp_idiv d_Dates_dayNumber_71 (by decide) ?_
    refine wp_iadd d_Dates_dayNumber_72 ?_
    refine wp_iload d_Dates_dayNumber_73 rfl ?_
    refine wp_bipush d_Dates_dayNumber_75 (v := nI 100) rfl ?_
    refine wp_idiv d_Dates_dayNumber_77 (by decide) ?_
    refine wp_isub d_Dates_dayNumber_78 ?_
    refine wp_iload d_Dates_dayNumber_79 rfl ?_
    refine wp_sipush d_Dates_dayNumber_81 (v := nI 400) rfl ?_
    refine wp_idiv d_Dates_dayNumber_84 (by decide) ?_
    refine wp_iadd d_Dates_dayNumber_85 ?_
    refine wp_iload_n d_Dates_dayNumber_86 rfl rfl ?_
    refine wp_iadd d_Dates_dayNumber_87 ?_
    obtain ⟨v15, e16, h⟩ := ob1_some h
    refine wx_int e16 ?_
    refine wp_istore d_Dates_dayNumber_88 (by decide) ?_
    refine wp_iconst d_Dates_dayNumber_90 (v := nI 1) rfl ?_
    refine wp_istore d_Dates_dayNumber_91 (by decide) ?_
    obtain ⟨days_19, e20, h⟩ := ob1_some h
    refine l_Dates_dayNumber_1 ?_ _ _ _ e20
    intro u6
    refine wp_iload d_Dates_dayNumber_116 rfl ?_
    cases h
    exact wp_iret d_Dates_dayNumber_118 rfl rfl rfl hq
  refine wp_iload_n d_Dates_dayNumber_19 rfl rfl ?_
  refine wp_sipush d_Dates_dayNumber_20 (v := nI 1700) rfl ?_
  refine wp_sipush d_Dates_dayNumber_23 (v := nI 2099) rfl ?_
  refine wl_callSN3 d_Dates_dayNumber_26 lc_Rec_within lsn_Dates_9 rfl ⟨rfl, rfl⟩ ⟨by decide, by decide⟩ ?_
  refine s_Rec_within (d := d) rfl ?_
  refine wc_eq 55 d_Dates_dayNumber_29 rfl (fun h29 => ?_) (fun h29 => ?_)
  · replace e4 := ip e4 (Or.inl h29)
    cases e4
    exact k9 _ _ _ rfl
  · refine wp_iload_n d_Dates_dayNumber_32 rfl rfl ?_
    refine wp_iconst d_Dates_dayNumber_33 (v := nI 1) rfl ?_
    refine wp_bipush d_Dates_dayNumber_34 (v := nI 12) rfl ?_
    refine wl_callSN3 d_Dates_dayNumber_36 lc_Rec_within lsn_Dates_9 rfl ⟨rfl, rfl⟩ ⟨by decide, by decide⟩ ?_
    refine s_Rec_within (d := d) rfl ?_
    refine wc_eq 55 d_Dates_dayNumber_39 rfl (fun h39 => ?_) (fun h39 => ?_)
    · replace e4 := ip e4 (Or.inr h39)
      cases e4
      exact k9 _ _ _ rfl
    · replace e4 := inn e4 (fun z => z.elim (fun z => z h29) (fun z => z h39))
      obtain ⟨x21, e22, e4⟩ := ob1_some e4
      cases e4
      refine wp_iload_n d_Dates_dayNumber_42 rfl rfl ?_
      refine wp_iconst d_Dates_dayNumber_43 (v := nI 1) rfl ?_
      refine wp_iload_n d_Dates_dayNumber_44 rfl rfl ?_
      refine wp_iload_n d_Dates_dayNumber_45 rfl rfl ?_
      obtain ⟨v23, e24, e22⟩ := ob1_some e22
      refine wl_callS2 d_Dates_dayNumber_46 lc_Dates_monthDays ls_Dates_13 rfl ⟨rfl, rfl⟩ ⟨by decide, by decide⟩ ?_
      refine s_Dates_monthDays (d := d) e24 ?_
      refine wl_callSN3 d_Dates_dayNumber_49 lc_Rec_within lsn_Dates_9 rfl ⟨rfl, rfl⟩ ⟨by decide, by decide⟩ ?_
      refine s_Rec_within (d := d) rfl ?_
      refine wc_ne 57 d_Dates_dayNumber_52 rfl (fun h52 => ?_) (fun h52 => ?_)
      · cases e22
        exact k11 _ _ _ (nb_t h52)
      · cases e22
        exact k9 _ _ _ (nb_f h52)
def F_Rec_weekday (z : Nat) (date_ : Int32) (M : mM) : Option (Int32) :=
  ob1 (F_Dates_dayNumber z date_ M) fun v1 =>
  some ((if v1 = (-1) then (-1) else jrem v1 (nI 7)))
theorem s_Rec_weekday {date_ : Int32} {M : mM} {r : Int32} (h : F_Rec_weekday z date_ M = some r) (hq : Q (some (.int r)) (lay M)) : Sp X (d + 2) f_Rec_weekday [.ref 0, .int date_] (lay M) Q := by
  refine Sp_of (by decide) rfl (Nat.le_of_ble_eq_true rfl) ?_
  refine wp_iload_n d_Rec_weekday_0 rfl rfl ?_
  obtain ⟨v1, e2, h⟩ := ob1_some h
  refine wl_callS1 d_Rec_weekday_1 lc_Dates_dayNumber ls_Rec_304 rfl ⟨rfl, rfl⟩ ⟨by decide, by decide⟩ ?_
  refine s_Dates_dayNumber (d := d) e2 ?_
  refine wp_istore_n d_Rec_weekday_4 rfl (by decide) ?_
  have k3 : wp X (d + 2) f_Rec_weekday (0, 0) 18 [.ref 0, .int date_, .int v1] [.int (if v1 = (-1) then (-1) else jrem v1 (nI 7))] (lay M) Q := by
    cases h
    exact wp_iret d_Rec_weekday_18 rfl rfl rfl hq
  refine wp_iload_n d_Rec_weekday_5 rfl rfl ?_
  refine wp_iconst d_Rec_weekday_6 (v := (-1)) rfl ?_
  refine wq_icmp_ne 14 d_Rec_weekday_7 rfl (fun h7 => ?_) (fun h7 => ?_)
  · refine wp_iload_n d_Rec_weekday_14 rfl rfl ?_
    refine wp_bipush d_Rec_weekday_15 (v := nI 7) rfl ?_
    refine wp_irem d_Rec_weekday_17 (by decide) ?_
    exact wj_in h7 (k3)
  · refine wp_iconst d_Rec_weekday_10 (v := (-1)) rfl ?_
    refine wp_goto 18 d_Rec_weekday_11 rfl ?_
    exact wj_ip h7 (k3)
def F_Rec_between (z : Nat) (from_ : Int32) (to_ : Int32) (M : mM) : Option (Int32) :=
  ob1 (F_Dates_dayNumber z from_ M) fun v1 =>
  ob1 (F_Dates_dayNumber z to_ M) fun v3 =>
  some ((if (v1 = (-1) ∨ v3 = (-1)) then (-1000000) else v3 - v1))
theorem s_Rec_between {from_ : Int32} {to_ : Int32} {M : mM} {r : Int32} (h : F_Rec_between z from_ to_ M = some r) (hq : Q (some (.int r)) (lay M)) : Sp X (d + 2) f_Rec_between [.ref 0, .int from_, .int to_] (lay M) Q := by
  refine Sp_of (by decide) rfl (Nat.le_of_ble_eq_true rfl) ?_
  refine wp_iload_n d_Rec_between_0 rfl rfl ?_
  obtain ⟨v1, e2, h⟩ := ob1_some h
  refine wl_callS1 d_Rec_between_1 lc_Dates_dayNumber ls_Rec_304 rfl ⟨rfl, rfl⟩ ⟨by decide, by decide⟩ ?_
  refine s_Dates_dayNumber (d := d) e2 ?_
  refine wp_istore_n d_Rec_between_4 rfl (by decide) ?_
  refine wp_iload_n d_Rec_between_5 rfl rfl ?_
  obtain ⟨v3, e4, h⟩ := ob1_some h
  refine wl_callS1 d_Rec_between_6 lc_Dates_dayNumber ls_Rec_304 rfl ⟨rfl, rfl⟩ ⟨by decide, by decide⟩ ?_
  refine s_Dates_dayNumber (d := d) e4 ?_
  refine wp_istore d_Rec_between_9 (by decide) ?_
  have k7 : wp X (d + 2) f_Rec_between (0, 0) 32 [.ref 0, .int from_, .int to_, .int v1, .int v3] [.int (if (v1 = (-1) ∨ v3 = (-1)) then (-1000000) else v3 - v1)] (lay M) Q := by
    cases h
    exact wp_iret d_Rec_between_32 rfl rfl rfl hq
  refine wp_iload_n d_Rec_between_11 rfl rfl ?_
  refine wp_iconst d_Rec_between_12 (v := (-1)) rfl ?_
  refine wq_icmp_eq 22 d_Rec_between_13 rfl (fun h13 => ?_) (fun h13 => ?_)
  · refine wp_ldcw (v := (-1000000)) d_Rec_between_22 lk_Rec_309 ?_
    refine wp_goto 32 d_Rec_between_25 rfl ?_
    exact wj_ip (Or.inl h13) (k7)
  · refine wp_iload d_Rec_between_16 rfl ?_
    refine wp_iconst d_Rec_between_18 (v := (-1)) rfl ?_
    refine wq_icmp_ne 28 d_Rec_between_19 rfl (fun h19 => ?_) (fun h19 => ?_)
    · refine wp_iload d_Rec_between_28 rfl ?_
      refine wp_iload_n d_Rec_between_30 rfl rfl ?_
      refine wp_isub d_Rec_between_31 ?_
      exact wj_in (fun z => z.elim h13 h19) (k7)
    · refine wp_ldcw (v := (-1000000)) d_Rec_between_22 lk_Rec_309 ?_
      refine wp_goto 32 d_Rec_between_25 rfl ?_
      exact wj_ip (Or.inr h19) (k7)
def F_Asker_sizeAt (z : Nat) (w_world : Nat) (inch_ : Int32) (M : mM) : Option (Int32) :=
  ob1 (F_World_thingAt z w_world inch_ M) fun c1 =>
  ob1 (if c1 = none then
  some (nI 0)
  else
  ob1 (dT c1) fun c8 =>
  some (M c8 2)) fun v6 =>
  some (v6)
theorem s_Asker_sizeAt {w_world : Nat} {inch_ : Int32} {M : mM} {r : Int32} (hw_world : isW w_world) (h : F_Asker_sizeAt z w_world inch_ M = some r) (hq : Q (some (.int r)) (lay M)) : Sp X (d + 3) f_Asker_sizeAt [.ref w_world, .int inch_] (lay M) Q := by
  refine Sp_of (by decide) rfl (Nat.le_of_ble_eq_true rfl) ?_
  refine wp_aload_n d_Asker_sizeAt_0 rfl rfl ?_
  refine wp_iload_n d_Asker_sizeAt_1 rfl rfl ?_
  obtain ⟨c1, e2, h⟩ := ob1_some h
  refine wl_callV1 d_Asker_sizeAt_2 lc_World_thingAt lv_Asker_50 rfl (shW0 hw_world) rfl rfl ⟨rfl, rfl⟩ ⟨by decide, by decide⟩ ?_
  refine s_World_thingAt (d := d) hw_world e2 ?_
  refine wr_astore_n d_Asker_sizeAt_5 rfl (by decide) ?_
  obtain ⟨v6, e7, h⟩ := ob1_some h
  have k5 : wp X (d + 3) f_Asker_sizeAt (0, 0) 18 [.ref w_world, .int inch_, rvO c1] [.int v6] (lay M) Q := by
    cases h
    exact wp_iret d_Asker_sizeAt_18 rfl rfl rfl hq
  refine wr_aload_n d_Asker_sizeAt_6 rfl rfl ?_
  refine wr_ifnonnull 14 d_Asker_sizeAt_7 rfl (fun h7 => ?_) (fun h7 => ?_)
  · replace e7 := inn e7 h7
    refine wr_aload_n d_Asker_sizeAt_14 rfl rfl ?_
    obtain ⟨c8, e9, e7⟩ := ob1_some e7
    refine wr_deref e9 ?_
    have tc8 := dT_th e9
    refine wl_getI d_Asker_sizeAt_15 lf_Asker_88 (shTh tc8) rfl rfl ?_
    cases e7
    exact k5
  · replace e7 := ip e7 h7
    refine wp_iconst d_Asker_sizeAt_10 (v := nI 0) rfl ?_
    cases e7
    refine wp_goto 18 d_Asker_sizeAt_11 rfl ?_
    exact k5
def L_Asker_lean_1 (z : Nat) (w_world : Nat) (M : mM) : Nat → Int32 → Int32 → Option (Int32)
  | 0, _, _ => none
  | n + 1, lean_, i_ =>
    ob1 (if ¬ (i_ < (nI 0)) then ob1 (F_World_isTaken w_world i_ M) fun v13 =>
    some (v13)
    else some (false)) fun x3 =>
    if x3 = true then
    ob1 (F_Asker_sizeAt z w_world i_ M) fun v9 =>
    L_Asker_lean_1 z w_world M n (lean_ + v9) (i_ + (-1))
    else
    some (lean_)
def L_Asker_lean_2 (z : Nat) (w_world : Nat) (M : mM) : Nat → Int32 → Int32 → Option (Int32)
  | 0, _, _ => none
  | n + 1, lean_, i_ =>
    ob1 (if i_ < (nI 60) then ob1 (F_World_isTaken w_world i_ M) fun v28 =>
    some (v28)
    else some (false)) fun x18 =>
    if x18 = true then
    ob1 (F_Asker_sizeAt z w_world i_ M) fun v24 =>
    L_Asker_lean_2 z w_world M n (lean_ - v24) (i_ + nI 1)
    else
    some (lean_)
def F_Asker_lean (z : Nat) (w_world : Nat) (inch_ : Int32) (M : mM) : Option (Int32) :=
  ob1 (L_Asker_lean_1 z w_world M z (nI 0) (inch_ - (nI 1))) fun lean_15 =>
  ob1 (L_Asker_lean_2 z w_world M z lean_15 (inch_ + (nI 1))) fun lean_30 =>
  some (lean_30)
theorem l_Asker_lean_1 {w_world : Nat} {M : mM}  {q2 : Value} {lean_r : Int32} (hw_world : isW w_world) (K : ∀ u4 : Value, wp X (d + 4) f_Asker_lean (0, 0) 36 [.ref 136, .ref w_world, q2, .int lean_r, u4] [] (lay M) Q) : ∀ (n : Nat) (lean_ : Int32) (i_ : Int32), L_Asker_lean_1 z w_world M n lean_ i_ = some (lean_r) → wp X (d + 4) f_Asker_lean (0, 0) 7 [.ref 136, .ref w_world, q2, .int lean_, .int i_] [] (lay M) Q := by
  intro n
  induction n with
  | zero => intro lean_ i_ h; exact nn h
  | succ n ih =>
    intro lean_ i_ h
    obtain ⟨x3, e4, h⟩ := ob1_some h
    have k7 : x3 = true → wp X (d + 4) f_Asker_lean (0, 0) 21 [.ref 136, .ref w_world, q2, .int lean_, .int i_] [] (lay M) Q := by
      intro x8
      replace h := ip h x8
      refine wp_iload_n d_Asker_lean_21 rfl rfl ?_
      refine wp_aload_n d_Asker_lean_22 rfl rfl ?_
      refine wp_iload d_Asker_lean_23 rfl ?_
      obtain ⟨v9, e10, h⟩ := ob1_some h
      refine wl_callS2 d_Asker_lean_25 lc_Asker_sizeAt ls_Asker_84 rfl ⟨rfl, rfl⟩ ⟨by decide, by decide⟩ ?_
      refine s_Asker_sizeAt (d := d) hw_world e10 ?_
      refine wp_iadd d_Asker_lean_28 ?_
      refine wp_istore_n d_Asker_lean_29 rfl (by decide) ?_
      refine wp_iinc d_Asker_lean_30 (v := i_ + (-1)) rfl rfl ?_
      refine wp_goto 7 d_Asker_lean_33 rfl ?_
      exact ih _ _ h
    have k11 : ¬ x3 = true → wp X (d + 4) f_Asker_lean (0, 0) 36 [.ref 136, .ref w_world, q2, .int lean_, .int i_] [] (lay M) Q := by
      intro x12
      replace h := inn h x12
      cases h
      exact K _
    refine wp_iload d_Asker_lean_7 rfl ?_
    refine wz_lt 36 d_Asker_lean_9 rfl (fun h9 => ?_) (fun h9 => ?_)
    · replace e4 := inn e4 (fun z => z h9)
      cases e4
      exact k11 (fun z => Bool.noConfusion z)
    · replace e4 := ip e4 h9
      refine wp_aload_n d_Asker_lean_12 rfl rfl ?_
      refine wp_iload d_Asker_lean_13 rfl ?_
      obtain ⟨v13, e14, e4⟩ := ob1_some e4
      refine wl_callV1 d_Asker_lean_15 lc_World_isTaken lv_Asker_44 rfl (shW0 hw_world) rfl rfl ⟨rfl, rfl⟩ ⟨by decide, by decide⟩ ?_
      refine s_World_isTaken (d := d + 3) hw_world e14 ?_
      refine wc_eq 36 d_Asker_lean_18 rfl (fun h18 => ?_) (fun h18 => ?_)
      · cases e4
        exact k11 h18
      · cases e4
        exact k7 h18
theorem l_Asker_lean_2 {w_world : Nat} {M : mM}  {q2 : Value} {lean_r : Int32} (hw_world : isW w_world) (K : ∀ u4 : Value, wp X (d + 4) f_Asker_lean (0, 0) 72 [.ref 136, .ref w_world, q2, .int lean_r, u4] [] (lay M) Q) : ∀ (n : Nat) (lean_ : Int32) (i_ : Int32), L_Asker_lean_2 z w_world M n lean_ i_ = some (lean_r) → wp X (d + 4) f_Asker_lean (0, 0) 41 [.ref 136, .ref w_world, q2, .int lean_, .int i_] [] (lay M) Q := by
  intro n
  induction n with
  | zero => intro lean_ i_ h; exact nn h
  | succ n ih =>
    intro lean_ i_ h
    obtain ⟨x18, e19, h⟩ := ob1_some h
    have k22 : x18 = true → wp X (d + 4) f_Asker_lean (0, 0) 57 [.ref 136, .ref w_world, q2, .int lean_, .int i_] [] (lay M) Q := by
      intro x23
      replace h := ip h x23
      refine wp_iload_n d_Asker_lean_57 rfl rfl ?_
      refine wp_aload_n d_Asker_lean_58 rfl rfl ?_
      refine wp_iload d_Asker_lean_59 rfl ?_
      obtain ⟨v24, e25, h⟩ := ob1_some h
      refine wl_callS2 d_Asker_lean_61 lc_Asker_sizeAt ls_Asker_84 rfl ⟨rfl, rfl⟩ ⟨by decide, by decide⟩ ?_
      refine s_Asker_sizeAt (d := d) hw_world e25 ?_
      refine wp_isub d_Asker_lean_64 ?_
      refine wp_istore_n d_Asker_lean_65 rfl (by decide) ?_
      refine wp_iinc d_Asker_lean_66 (v := i_ + nI 1) rfl rfl ?_
      refine wp_goto 41 d_Asker_lean_69 rfl ?_
      exact ih _ _ h
    have k26 : ¬ x18 = true → wp X (d + 4) f_Asker_lean (0, 0) 72 [.ref 136, .ref w_world, q2, .int lean_, .int i_] [] (lay M) Q := by
      intro x27
      replace h := inn h x27
      cases h
      exact K _
    refine wp_iload d_Asker_lean_41 rfl ?_
    refine wp_bipush d_Asker_lean_43 (v := nI 60) rfl ?_
    refine wq_icmp_ge 72 d_Asker_lean_45 rfl (fun h45 => ?_) (fun h45 => ?_)
    · replace e19 := inn e19 h45
      cases e19
      exact k26 (fun z => Bool.noConfusion z)
    · replace e19 := ip e19 h45
      refine wp_aload_n d_Asker_lean_48 rfl rfl ?_
      refine wp_iload d_Asker_lean_49 rfl ?_
      obtain ⟨v28, e29, e19⟩ := ob1_some e19
      refine wl_callV1 d_Asker_lean_51 lc_World_isTaken lv_Asker_44 rfl (shW0 hw_world) rfl rfl ⟨rfl, rfl⟩ ⟨by decide, by decide⟩ ?_
      refine s_World_isTaken (d := d + 3) hw_world e29 ?_
      refine wc_eq 72 d_Asker_lean_54 rfl (fun h54 => ?_) (fun h54 => ?_)
      · cases e19
        exact k26 h54
      · cases e19
        exact k22 h54
theorem s_Asker_lean {w_world : Nat} {inch_ : Int32} {M : mM} {r : Int32} (hw_world : isW w_world) (h : F_Asker_lean z w_world inch_ M = some r) (hq : Q (some (.int r)) (lay M)) : Sp X (d + 4) f_Asker_lean [.ref 136, .ref w_world, .int inch_] (lay M) Q := by
  refine Sp_of (by decide) rfl (Nat.le_of_ble_eq_true rfl) ?_
  refine wp_iconst d_Asker_lean_0 (v := nI 0) rfl ?_
  refine wp_istore_n d_Asker_lean_1 rfl (by decide) ?_
  refine wp_iload_n d_Asker_lean_2 rfl rfl ?_
  refine wp_iconst d_Asker_lean_3 (v := nI 1) rfl ?_
  refine wp_isub d_Asker_lean_4 ?_
  refine wp_istore d_Asker_lean_5 (by decide) ?_
  obtain ⟨lean_15, e32, h⟩ := ob1_some h
  refine l_Asker_lean_1 hw_world ?_ _ _ _ e32
  intro u4
  refine wp_iload_n d_Asker_lean_36 rfl rfl ?_
  refine wp_iconst d_Asker_lean_37 (v := nI 1) rfl ?_
  refine wp_iadd d_Asker_lean_38 ?_
  refine wp_istore d_Asker_lean_39 (by decide) ?_
  obtain ⟨lean_30, e31, h⟩ := ob1_some h
  refine l_Asker_lean_2 hw_world ?_ _ _ _ e31
  intro u4
  refine wp_iload_n d_Asker_lean_72 rfl rfl ?_
  cases h
  exact wp_iret d_Asker_lean_73 rfl rfl rfl hq
def F_Rec_leans (z : Nat) (thing_ : Int32) (M : mM) : Option (Int32) :=
  ob1 (F_World_find z 1 thing_ M) fun c1 =>
  ob1 (if c1 = none then
  some ((-1000))
  else
  ob1 (dT c1) fun c10 =>
  ob1 (F_Asker_lean z 1 (M c10 4) M) fun v12 =>
  some (v12)) fun v8 =>
  some (v8)
theorem s_Rec_leans {thing_ : Int32} {M : mM} {r : Int32} (h : F_Rec_leans z thing_ M = some r) (hq : Q (some (.int r)) (lay M)) : Sp X (d + 5) f_Rec_leans [.ref 0, .int thing_] (lay M) Q := by
  refine Sp_of (by decide) rfl (Nat.le_of_ble_eq_true rfl) ?_
  refine wp_aload_n d_Rec_leans_0 rfl rfl ?_
  refine wl_getR d_Rec_leans_1 lf_Rec_12 sh_0 rfl ?_
  refine wp_iload_n d_Rec_leans_4 rfl rfl ?_
  obtain ⟨c1, e2, h⟩ := ob1_some h
  refine wl_callV1 d_Rec_leans_5 lc_World_find lv_Rec_88 rfl (shW0 isW_1) rfl rfl ⟨rfl, rfl⟩ ⟨by decide, by decide⟩ ?_
  refine s_World_find (d := d + 3) isW_1 e2 ?_
  refine wr_astore_n d_Rec_leans_8 rfl (by decide) ?_
  obtain ⟨v8, e9, h⟩ := ob1_some h
  have k7 : wp X (d + 5) f_Rec_leans (0, 0) 34 [.ref 0, .int thing_, rvO c1] [.int v8] (lay M) Q := by
    cases h
    exact wp_iret d_Rec_leans_34 rfl rfl rfl hq
  refine wr_aload_n d_Rec_leans_9 rfl rfl ?_
  refine wr_ifnonnull 19 d_Rec_leans_10 rfl (fun h10 => ?_) (fun h10 => ?_)
  · replace e9 := inn e9 h10
    refine wp_aload_n d_Rec_leans_19 rfl rfl ?_
    refine wl_getR d_Rec_leans_20 lf_Rec_57 sh_0 rfl ?_
    refine wp_aload_n d_Rec_leans_23 rfl rfl ?_
    refine wl_getR d_Rec_leans_24 lf_Rec_12 sh_0 rfl ?_
    refine wr_aload_n d_Rec_leans_27 rfl rfl ?_
    obtain ⟨c10, e11, e9⟩ := ob1_some e9
    refine wr_deref e11 ?_
    have tc10 := dT_th e11
    refine wl_getI d_Rec_leans_28 lf_Rec_179 (shTh tc10) rfl rfl ?_
    obtain ⟨v12, e13, e9⟩ := ob1_some e9
    refine wl_callV2 d_Rec_leans_31 lc_Asker_lean lv_Rec_310 rfl sh_136 rfl rfl ⟨rfl, rfl⟩ ⟨by decide, by decide⟩ ?_
    refine s_Asker_lean (d := d) isW_1 e13 ?_
    cases e9
    exact k7
  · replace e9 := ip e9 h10
    refine wp_sipush d_Rec_leans_13 (v := (-1000)) rfl ?_
    cases e9
    refine wp_goto 34 d_Rec_leans_16 rfl ?_
    exact k7
def L_Rec_freeBy_1 (z : Nat) : Nat → Int32 → Int32 → mM → Option (Int32 × mM)
  | 0, _, _, _ => none
  | n + 1, many_, i_, M =>
    if i_ < (M 109 5) then
    ob1 (rT M 113 20 i_) fun c6 =>
    ob2 (ob2 (ob1 (some (decide (¬ ((nI 1) < (M c6 6))))) fun x52 =>
    if x52 = true then ob2 (F_Law_tells z 29 (nI 1) 109 c6 M) fun v56 M57 =>
    some (decide (¬ (v56 < (nI 500))), M57)
    else some (false, M)) fun x36 M38 =>
    if x36 = true then
    some (many_ + nI 1, M38)
    else
    some (many_, M38)) fun many_33 M34 =>
    L_Rec_freeBy_1 z n many_33 (i_ + nI 1) M34
    else
    some (many_, M)
def F_Rec_freeBy (z : Nat) (wind_ : Int32) (M : mM) : Option (Int32 × mM) :=
  ob1 (F_World_copyFrom z 109 1 M) fun M1 =>
  ob1 (some (up M1 109 7 wind_)) fun M3 =>
  ob2 (L_Rec_freeBy_1 z z (nI 0) (nI 0) M3) fun many_61 M62 =>
  some (many_61, M62)
theorem l_Rec_freeBy_1  {q1 : Value} {many_r : Int32} {N' : mM} (K : ∀ u3 u4 : Value, wp X (d + 5) f_Rec_freeBy (0, 0) 86 [.ref 0, q1, .int many_r, u3, u4] [] (lay N') Q) : ∀ (n : Nat) (many_ : Int32) (i_ : Int32) (M : mM) (u4 : Value), L_Rec_freeBy_1 z n many_ i_ M = some (many_r, N') → wp X (d + 5) f_Rec_freeBy (0, 0) 23 [.ref 0, q1, .int many_, .int i_, u4] [] (lay M) Q := by
  intro n
  induction n with
  | zero => intro many_ i_ M u4 h; exact nn h
  | succ n ih =>
    intro many_ i_ M u4 h
    refine wp_iload_n d_Rec_freeBy_23 rfl rfl ?_
    refine wp_aload_n d_Rec_freeBy_24 rfl rfl ?_
    refine wl_getR d_Rec_freeBy_25 lf_Rec_51 sh_0 rfl ?_
    refine wl_getI d_Rec_freeBy_28 lf_Rec_213 (shW0 isW_109) rfl rfl ?_
    refine wq_icmp_ge 86 d_Rec_freeBy_31 rfl (fun h31 => ?_) (fun h31 => ?_)
    · replace h := inn h h31
      cases h
      exact K _ _
    · replace h := ip h h31
      refine wp_aload_n d_Rec_freeBy_34 rfl rfl ?_
      refine wl_getR d_Rec_freeBy_35 lf_Rec_51 sh_0 rfl ?_
      refine wl_getR d_Rec_freeBy_38 lf_Rec_319 (shW0 isW_109) rfl ?_
      refine wp_iload_n d_Rec_freeBy_41 rfl rfl ?_
      obtain ⟨c6, e5, h⟩ := ob1_some h
      have tc6 := rT_th e5
      refine wa_aald d_Rec_freeBy_42 (shW4 isW_109) e5 ?_
      refine wp_astore d_Rec_freeBy_43 (by decide) ?_
      obtain ⟨many_33, M34, e35, h⟩ := ob2_some h
      have k32 : wp X (d + 5) f_Rec_freeBy (0, 0) 80 [.ref 0, q1, .int many_33, .int i_, .ref c6] [] (lay M34) Q := by
        refine wp_iinc d_Rec_freeBy_80 (v := i_ + nI 1) rfl rfl ?_
        refine wp_goto 23 d_Rec_freeBy_83 rfl ?_
        exact ih _ _ _ _ h
      obtain ⟨x36, M38, e37, e35⟩ := ob2_some e35
      have k48 : x36 = true → wp X (d + 5) f_Rec_freeBy (0, 0) 77 [.ref 0, q1, .int many_, .int i_, .ref c6] [] (lay M38) Q := by
        intro x49
        replace e35 := ip e35 x49
        refine wp_iinc d_Rec_freeBy_77 (v := many_ + nI 1) rfl rfl ?_
        cases e35
        exact k32
      have k50 : ¬ x36 = true → wp X (d + 5) f_Rec_freeBy (0, 0) 80 [.ref 0, q1, .int many_, .int i_, .ref c6] [] (lay M38) Q := by
        intro x51
        replace e35 := inn e35 x51
        cases e35
        exact k32
      obtain ⟨x52, e53, e37⟩ := ob1_some e37
      have k54 : x52 = true → wp X (d + 5) f_Rec_freeBy (0, 0) 54 [.ref 0, q1, .int many_, .int i_, .ref c6] [] (lay M) Q := by
        intro x55
        replace e37 := ip e37 x55
        refine wp_aload_n d_Rec_freeBy_54 rfl rfl ?_
        refine wl_getR d_Rec_freeBy_55 lf_Rec_19 sh_0 rfl ?_
        refine wl_getR d_Rec_freeBy_58 lf_Rec_185 (shT0 isTd_28) rfl ?_
        refine wp_iconst d_Rec_freeBy_61 (v := nI 1) rfl ?_
        refine wp_aload_n d_Rec_freeBy_62 rfl rfl ?_
        refine wl_getR d_Rec_freeBy_63 lf_Rec_51 sh_0 rfl ?_
        refine wp_aload d_Rec_freeBy_66 rfl ?_
        obtain ⟨v56, M57, e58, e37⟩ := ob2_some e37
        refine wl_callV3 d_Rec_freeBy_68 lc_Law_tells lv_Rec_189 rfl (shL0 (isL_of isTd_28)) rfl rfl ⟨rfl, rfl⟩ ⟨by decide, by decide⟩ ?_
        refine s_Law_tells (d := d) (isL_of isTd_28) isW_109 tc6 e58 ?_
        refine wp_sipush d_Rec_freeBy_71 (v := nI 500) rfl ?_
        refine wq_icmp_lt 80 d_Rec_freeBy_74 rfl (fun h74 => ?_) (fun h74 => ?_)
        · cases e37
          exact k50 (fun z => (fun z => z h74) (of_decide_eq_true z))
        · cases e37
          exact k48 (decide_eq_true h74)
      have k59 : ¬ x52 = true → wp X (d + 5) f_Rec_freeBy (0, 0) 80 [.ref 0, q1, .int many_, .int i_, .ref c6] [] (lay M) Q := by
        intro x60
        replace e37 := inn e37 x60
        cases e37
        exact k50 (fun z => Bool.noConfusion z)
      refine wp_aload d_Rec_freeBy_45 rfl ?_
      refine wl_getI d_Rec_freeBy_47 lf_Rec_118 (shTh tc6) rfl rfl ?_
      refine wp_iconst d_Rec_freeBy_50 (v := nI 1) rfl ?_
      refine wq_icmp_gt 80 d_Rec_freeBy_51 rfl (fun h51 => ?_) (fun h51 => ?_)
      · cases e53
        exact k59 (fun z => (fun z => z h51) (of_decide_eq_true z))
      · cases e53
        exact k54 (decide_eq_true h51)
theorem s_Rec_freeBy {wind_ : Int32} {M : mM} {r : Int32} {M' : mM} (h : F_Rec_freeBy z wind_ M = some (r, M')) (hq : Q (some (.int r)) (lay M')) : Sp X (d + 5) f_Rec_freeBy [.ref 0, .int wind_] (lay M) Q := by
  refine Sp_of (by decide) rfl (Nat.le_of_ble_eq_true rfl) ?_
  refine wp_aload_n d_Rec_freeBy_0 rfl rfl ?_
  refine wl_getR d_Rec_freeBy_1 lf_Rec_51 sh_0 rfl ?_
  refine wp_aload_n d_Rec_freeBy_4 rfl rfl ?_
  refine wl_getR d_Rec_freeBy_5 lf_Rec_12 sh_0 rfl ?_
  obtain ⟨M1, e2, h⟩ := ob1_some h
  refine wl_callV1 d_Rec_freeBy_8 lc_World_copyFrom lv_Rec_209 rfl (shW0 isW_109) rfl rfl ⟨rfl, rfl⟩ ⟨by decide, by decide⟩ ?_
  refine s_World_copyFrom (d := d + 2) isW_109 isW_1 e2 ?_
  refine wp_aload_n d_Rec_freeBy_11 rfl rfl ?_
  refine wl_getR d_Rec_freeBy_12 lf_Rec_51 sh_0 rfl ?_
  refine wp_iload_n d_Rec_freeBy_15 rfl rfl ?_
  refine wl_put d_Rec_freeBy_16 lp_Rec_104 (shW0 isW_109) rfl ⟨rfl, rfl⟩ ?_
  obtain ⟨M3, e4, h⟩ := ob1_some h
  refine wx_M e4 ?_
  refine wp_iconst d_Rec_freeBy_19 (v := nI 0) rfl ?_
  refine wp_istore_n d_Rec_freeBy_20 rfl (by decide) ?_
  refine wp_iconst d_Rec_freeBy_21 (v := nI 0) rfl ?_
  refine wp_istore_n d_Rec_freeBy_22 rfl (by decide) ?_
  obtain ⟨many_61, M62, e63, h⟩ := ob2_some h
  refine l_Rec_freeBy_1 ?_ _ _ _ _ _ e63
  intro u3 u4
  refine wp_iload_n d_Rec_freeBy_86 rfl rfl ?_
  cases h
  exact wp_iret d_Rec_freeBy_87 rfl rfl rfl hq
def L_Rec_leastWind_1 (z : Nat) (kt : mM → Option (Int32 × mM)) : Nat → Int32 → mM → Option (Int32 × mM)
  | 0, _, _ => none
  | n + 1, v_, M =>
    if ¬ ((nI 9) < v_) then
    ob2 (ob2 (F_Rec_freeBy z v_ M) fun v11 M12 =>
    some (decide ((nI 0) < v11), M12)) fun x1 M3 =>
    if x1 = true then
    some (v_, M3)
    else
    L_Rec_leastWind_1 z kt n (v_ + nI 1) M3
    else
    kt M
def F_Rec_leastWind (z : Nat) (M : mM) : Option (Int32 × mM) :=
  L_Rec_leastWind_1 z (fun (M14 : mM) =>
  some ((-1), M14)) z (nI 0) M
theorem l_Rec_leastWind_1 {kt : mM → Option (Int32 × mM)}  {r : Int32} {M' : mM} (hq : Q (some (.int r)) (lay M')) (K : ∀ (N1 : mM) (u1 : Value), kt  N1 = some (r, M') → wp X (d + 6) f_Rec_leastWind (0, 0) 24 [.ref 0, u1] [] (lay N1) Q) : ∀ (n : Nat) (v_ : Int32) (M : mM), L_Rec_leastWind_1 z kt n v_ M = some (r, M') → wp X (d + 6) f_Rec_leastWind (0, 0) 2 [.ref 0, .int v_] [] (lay M) Q := by
  intro n
  induction n with
  | zero => intro v_ M h; exact nn h
  | succ n ih =>
    intro v_ M h
    refine wp_iload_n d_Rec_leastWind_2 rfl rfl ?_
    refine wp_bipush d_Rec_leastWind_3 (v := nI 9) rfl ?_
    refine wq_icmp_gt 24 d_Rec_leastWind_5 rfl (fun h5 => ?_) (fun h5 => ?_)
    · replace h := inn h (fun z => z h5)
      exact K _ _ h
    · replace h := ip h h5
      obtain ⟨x1, M3, e2, h⟩ := ob2_some h
      have k7 : x1 = true → wp X (d + 6) f_Rec_leastWind (0, 0) 16 [.ref 0, .int v_] [] (lay M3) Q := by
        intro x8
        replace h := ip h x8
        refine wp_iload_n d_Rec_leastWind_16 rfl rfl ?_
        cases h
        exact wp_iret d_Rec_leastWind_17 rfl rfl rfl hq
      have k9 : ¬ x1 = true → wp X (d + 6) f_Rec_leastWind (0, 0) 18 [.ref 0, .int v_] [] (lay M3) Q := by
        intro x10
        replace h := inn h x10
        refine wp_iinc d_Rec_leastWind_18 (v := v_ + nI 1) rfl rfl ?_
        refine wp_goto 2 d_Rec_leastWind_21 rfl ?_
        exact ih _ _ h
      refine wp_aload_n d_Rec_leastWind_8 rfl rfl ?_
      refine wp_iload_n d_Rec_leastWind_9 rfl rfl ?_
      obtain ⟨v11, M12, e13, e2⟩ := ob2_some e2
      refine wl_callV1 d_Rec_leastWind_10 lc_Rec_freeBy lv_Rec_316 rfl sh_0 rfl rfl ⟨rfl, rfl⟩ ⟨by decide, by decide⟩ ?_
      refine s_Rec_freeBy (d := d) e13 ?_
      refine wz_le 18 d_Rec_leastWind_13 rfl (fun h13 => ?_) (fun h13 => ?_)
      · cases e2
        exact k9 (fun z => h13 (of_decide_eq_true z))
      · cases e2
        exact k7 (decide_eq_true h13)
theorem s_Rec_leastWind {M : mM} {r : Int32} {M' : mM} (h : F_Rec_leastWind z M = some (r, M')) (hq : Q (some (.int r)) (lay M')) : Sp X (d + 6) f_Rec_leastWind [.ref 0] (lay M) Q := by
  refine Sp_of (by decide) rfl (Nat.le_of_ble_eq_true rfl) ?_
  refine wp_iconst d_Rec_leastWind_0 (v := nI 0) rfl ?_
  refine wp_istore_n d_Rec_leastWind_1 rfl (by decide) ?_
  refine l_Rec_leastWind_1 hq ?_ _ _ _ h
  intro M14 u1 h
  refine wp_iconst d_Rec_leastWind_24 (v := (-1)) rfl ?_
  cases h
  exact wp_iret d_Rec_leastWind_25 rfl rfl rfl hq
def F_Rec_go (z : Nat) (v_ : Int32) (M : mM) : Option (Int32 × mM) :=
  if v_ = (-1) then
  ob2 (F_Rec_leastWind z M) fun v11 M12 =>
  some (v11, M12)
  else
  ob2 (if (F_Rec_within v_ (nI 0) (nI 9)) = true then
  ob2 (F_Rec_freeBy z v_ M) fun v8 M9 =>
  some (v8, M9)
  else
  some ((-1), M)) fun v5 M7 =>
  some (v5, M7)
theorem s_Rec_go {v_ : Int32} {M : mM} {r : Int32} {M' : mM} (h : F_Rec_go z v_ M = some (r, M')) (hq : Q (some (.int r)) (lay M')) : Sp X (d + 7) f_Rec_go [.ref 0, .int v_] (lay M) Q := by
  refine Sp_of (by decide) rfl (Nat.le_of_ble_eq_true rfl) ?_
  refine wp_iload_n d_Rec_go_0 rfl rfl ?_
  refine wp_iconst d_Rec_go_1 (v := (-1)) rfl ?_
  refine wq_icmp_ne 10 d_Rec_go_2 rfl (fun h2 => ?_) (fun h2 => ?_)
  · replace h := inn h h2
    obtain ⟨v5, M7, e6, h⟩ := ob2_some h
    have k4 : wp X (d + 7) f_Rec_go (0, 0) 29 [.ref 0, .int v_] [.int v5] (lay M7) Q := by
      cases h
      exact wp_iret d_Rec_go_29 rfl rfl rfl hq
    refine wp_iload_n d_Rec_go_10 rfl rfl ?_
    refine wp_iconst d_Rec_go_11 (v := nI 0) rfl ?_
    refine wp_bipush d_Rec_go_12 (v := nI 9) rfl ?_
    refine wl_callS3 d_Rec_go_14 lc_Rec_within ls_Rec_96 rfl ⟨rfl, rfl⟩ ⟨by decide, by decide⟩ ?_
    refine s_Rec_within (d := d + 6) rfl ?_
    refine wc_eq 28 d_Rec_go_17 rfl (fun h17 => ?_) (fun h17 => ?_)
    · replace e6 := inn e6 h17
      refine wp_iconst d_Rec_go_28 (v := (-1)) rfl ?_
      cases e6
      exact k4
    · replace e6 := ip e6 h17
      refine wp_aload_n d_Rec_go_20 rfl rfl ?_
      refine wp_iload_n d_Rec_go_21 rfl rfl ?_
      obtain ⟨v8, M9, e10, e6⟩ := ob2_some e6
      refine wl_callV1 d_Rec_go_22 lc_Rec_freeBy lv_Rec_316 rfl sh_0 rfl rfl ⟨rfl, rfl⟩ ⟨by decide, by decide⟩ ?_
      refine s_Rec_freeBy (d := d + 1) e10 ?_
      cases e6
      refine wp_goto 29 d_Rec_go_25 rfl ?_
      exact k4
  · replace h := ip h h2
    refine wp_aload_n d_Rec_go_5 rfl rfl ?_
    obtain ⟨v11, M12, e13, h⟩ := ob2_some h
    refine wl_callV0 d_Rec_go_6 lc_Rec_leastWind lv_Rec_313 rfl sh_0 rfl rfl ⟨rfl, rfl⟩ ⟨by decide, by decide⟩ ?_
    refine s_Rec_leastWind (d := d) e13 ?_
    cases h
    exact wp_iret d_Rec_go_9 rfl rfl rfl hq
def L_Asker_weighWasps_2 (z : Nat) (w_world : Nat) (t_ : Option Nat) : Nat → Int32 → mM → Option (mM)
  | 0, _, _ => none
  | n + 1, sum_, M =>
    if ¬ (sum_ < (nI 0)) then
    ob1 (dT t_) fun c13 =>
    ob1 (if (sum_ + (M c13 2)) < (nI 181) then
    ob1 (ra M 141 181 (sum_ + (M c13 2))) fun v27 =>
    ob1 (ra M 141 181 sum_) fun v29 =>
    ob1 (some (F_Math_min v27 (v29 + (nI 1)))) fun v30 =>
    ob1 (wa M 141 181 (sum_ + (M c13 2)) v30) fun M33 =>
    some (M33)
    else
    some (M)) fun M24 =>
    L_Asker_weighWasps_2 z w_world t_ n (sum_ + (-1)) M24
    else
    some (M)
def L_Asker_weighWasps_1 (z : Nat) (w_world : Nat) : Nat → Int32 → Int32 → mM → Option (Int32 × mM)
  | 0, _, _, _ => none
  | n + 1, total_, i_, M =>
    if i_ < (nI 60) then
    ob1 (F_World_thingAt z w_world i_ M) fun c3 =>
    ob1 (if c3 = none then some (true)
    else ob1 (dT c3) fun c49 =>
    some (decide (¬ ((M c49 1) = (nI 4))))) fun x5 =>
    if x5 = true then
    L_Asker_weighWasps_1 z w_world n total_ (i_ + nI 1) M
    else
    ob1 (L_Asker_weighWasps_2 z w_world c3 z total_ M) fun M34 =>
    ob1 (if total_ = (nI 0) then
    ob1 (dT c3) fun c44 =>
    ob1 (wa M34 141 181 (M34 c44 2) (nI 1)) fun M47 =>
    some (M47)
    else
    some (M34)) fun M40 =>
    ob1 (dT c3) fun c42 =>
    L_Asker_weighWasps_1 z w_world n (total_ + (M40 c42 2)) (i_ + nI 1) M40
    else
    some (total_, M)
def F_Asker_weighWasps (z : Nat) (w_world : Nat) (M : mM) : Option (Int32 × mM) :=
  ob1 (F_Arrays_fill z 141 181 (nI 1000) M) fun M1 =>
  ob2 (L_Asker_weighWasps_1 z w_world z (nI 0) (nI 0) M1) fun total_51 M52 =>
  some (total_51, M52)
theorem l_Asker_weighWasps_2 {w_world : Nat} {t_ : Option Nat}  {q2 : Value} {q3 : Value} {N' : mM} (hw_world : isW w_world) (K : ∀ u5 u6 : Value, wp X (d + 3) f_Asker_weighWasps (0, 0) 104 [.ref 136, .ref w_world, q2, q3, rvO t_, u5, u6] [] (lay N') Q) : ∀ (n : Nat) (sum_ : Int32) (M : mM) (u6 : Value), L_Asker_weighWasps_2 z w_world t_ n sum_ M = some (N') → wp X (d + 3) f_Asker_weighWasps (0, 0) 47 [.ref 136, .ref w_world, q2, q3, rvO t_, .int sum_, u6] [] (lay M) Q := by
  intro n
  induction n with
  | zero => intro sum_ M u6 h; exact nn h
  | succ n ih =>
    intro sum_ M u6 h
    refine wp_iload d_Asker_weighWasps_47 rfl ?_
    refine wz_lt 104 d_Asker_weighWasps_49 rfl (fun h49 => ?_) (fun h49 => ?_)
    · replace h := inn h (fun z => z h49)
      cases h
      exact K _ _
    · replace h := ip h h49
      refine wp_iload d_Asker_weighWasps_52 rfl ?_
      refine wr_aload d_Asker_weighWasps_54 rfl ?_
      obtain ⟨c13, e14, h⟩ := ob1_some h
      refine wr_deref e14 ?_
      have tc13 := dT_th e14
      refine wl_getI d_Asker_weighWasps_56 lf_Asker_88 (shTh tc13) rfl rfl ?_
      refine wp_iadd d_Asker_weighWasps_59 ?_
      refine wp_istore d_Asker_weighWasps_60 (by decide) ?_
      obtain ⟨M24, e25, h⟩ := ob1_some h
      have k23 : wp X (d + 3) f_Asker_weighWasps (0, 0) 98 [.ref 136, .ref w_world, q2, q3, rvO t_, .int sum_, .int (sum_ + (M c13 2))] [] (lay M24) Q := by
        refine wp_iinc d_Asker_weighWasps_98 (v := sum_ + (-1)) rfl rfl ?_
        refine wp_goto 47 d_Asker_weighWasps_101 rfl ?_
        exact ih _ _ _ h
      refine wp_iload d_Asker_weighWasps_62 rfl ?_
      refine wp_aload_n d_Asker_weighWasps_64 rfl rfl ?_
      refine wl_getR d_Asker_weighWasps_65 lf_Asker_24 sh_136 rfl ?_
      refine wl_alen (by decide) d_Asker_weighWasps_68 sh_141 ?_
      refine wq_icmp_ge 98 d_Asker_weighWasps_69 rfl (fun h69 => ?_) (fun h69 => ?_)
      · replace e25 := inn e25 h69
        cases e25
        exact k23
      · replace e25 := ip e25 h69
        refine wp_aload_n d_Asker_weighWasps_72 rfl rfl ?_
        refine wl_getR d_Asker_weighWasps_73 lf_Asker_24 sh_136 rfl ?_
        refine wp_iload d_Asker_weighWasps_76 rfl ?_
        refine wp_aload_n d_Asker_weighWasps_78 rfl rfl ?_
        refine wl_getR d_Asker_weighWasps_79 lf_Asker_24 sh_136 rfl ?_
        refine wp_iload d_Asker_weighWasps_82 rfl ?_
        obtain ⟨v27, e26, e25⟩ := ob1_some e25
        refine wa_ald d_Asker_weighWasps_84 sh_141 e26 ?_
        refine wp_aload_n d_Asker_weighWasps_85 rfl rfl ?_
        refine wl_getR d_Asker_weighWasps_86 lf_Asker_24 sh_136 rfl ?_
        refine wp_iload d_Asker_weighWasps_89 rfl ?_
        obtain ⟨v29, e28, e25⟩ := ob1_some e25
        refine wa_ald d_Asker_weighWasps_91 sh_141 e28 ?_
        refine wp_iconst d_Asker_weighWasps_92 (v := nI 1) rfl ?_
        refine wp_iadd d_Asker_weighWasps_93 ?_
        refine wl_mmin d_Asker_weighWasps_94 ls_Asker_69 rfl ⟨by decide, by decide⟩ ?_
        obtain ⟨v30, e31, e25⟩ := ob1_some e25
        refine wx_int e31 ?_
        obtain ⟨M33, e32, e25⟩ := ob1_some e25
        refine wa_ast d_Asker_weighWasps_97 sh_141 e32 ?_
        cases e25
        exact k23
theorem l_Asker_weighWasps_1 {w_world : Nat}  {total_r : Int32} {N' : mM} (hw_world : isW w_world) (K : ∀ u3 u4 u5 u6 : Value, wp X (d + 3) f_Asker_weighWasps (0, 0) 133 [.ref 136, .ref w_world, .int total_r, u3, u4, u5, u6] [] (lay N') Q) : ∀ (n : Nat) (total_ : Int32) (i_ : Int32) (M : mM) (u4 u5 u6 : Value), L_Asker_weighWasps_1 z w_world n total_ i_ M = some (total_r, N') → wp X (d + 3) f_Asker_weighWasps (0, 0) 14 [.ref 136, .ref w_world, .int total_, .int i_, u4, u5, u6] [] (lay M) Q := by
  intro n
  induction n with
  | zero => intro total_ i_ M u4 u5 u6 h; exact nn h
  | succ n ih =>
    intro total_ i_ M u4 u5 u6 h
    refine wp_iload_n d_Asker_weighWasps_14 rfl rfl ?_
    refine wp_bipush d_Asker_weighWasps_15 (v := nI 60) rfl ?_
    refine wq_icmp_ge 133 d_Asker_weighWasps_17 rfl (fun h17 => ?_) (fun h17 => ?_)
    · replace h := inn h h17
      cases h
      exact K _ _ _ _
    · replace h := ip h h17
      refine wp_aload_n d_Asker_weighWasps_20 rfl rfl ?_
      refine wp_iload_n d_Asker_weighWasps_21 rfl rfl ?_
      obtain ⟨c3, e4, h⟩ := ob1_some h
      refine wl_callV1 d_Asker_weighWasps_22 lc_World_thingAt lv_Asker_50 rfl (shW0 hw_world) rfl rfl ⟨rfl, rfl⟩ ⟨by decide, by decide⟩ ?_
      refine s_World_thingAt (d := d) hw_world e4 ?_
      refine wr_astore d_Asker_weighWasps_25 (by decide) ?_
      obtain ⟨x5, e6, h⟩ := ob1_some h
      have k9 : ∀ u5 u6 : Value, x5 = true → wp X (d + 3) f_Asker_weighWasps (0, 0) 127 [.ref 136, .ref w_world, .int total_, .int i_, rvO c3, u5, u6] [] (lay M) Q := by
        intro u5 u6 x10
        replace h := ip h x10
        refine wp_iinc d_Asker_weighWasps_127 (v := i_ + nI 1) rfl rfl ?_
        refine wp_goto 14 d_Asker_weighWasps_130 rfl ?_
        exact ih _ _ _ _ _ _ h
      have k11 : ∀ u5 u6 : Value, ¬ x5 = true → wp X (d + 3) f_Asker_weighWasps (0, 0) 44 [.ref 136, .ref w_world, .int total_, .int i_, rvO c3, u5, u6] [] (lay M) Q := by
        intro u5 u6 x12
        replace h := inn h x12
        refine wp_iload_n d_Asker_weighWasps_44 rfl rfl ?_
        refine wp_istore d_Asker_weighWasps_45 (by decide) ?_
        obtain ⟨M34, e48, h⟩ := ob1_some h
        refine l_Asker_weighWasps_2 hw_world ?_ _ _ _ _ e48
        intro u5 u6
        obtain ⟨M40, e41, h⟩ := ob1_some h
        have k39 : ∀ u5 u6 : Value, wp X (d + 3) f_Asker_weighWasps (0, 0) 119 [.ref 136, .ref w_world, .int total_, .int i_, rvO c3, u5, u6] [] (lay M40) Q := by
          intro u5 u6
          refine wp_iload_n d_Asker_weighWasps_119 rfl rfl ?_
          refine wr_aload d_Asker_weighWasps_120 rfl ?_
          obtain ⟨c42, e43, h⟩ := ob1_some h
          refine wr_deref e43 ?_
          have tc42 := dT_th e43
          refine wl_getI d_Asker_weighWasps_122 lf_Asker_88 (shTh tc42) rfl rfl ?_
          refine wp_iadd d_Asker_weighWasps_125 ?_
          refine wp_istore_n d_Asker_weighWasps_126 rfl (by decide) ?_
          refine wp_iinc d_Asker_weighWasps_127 (v := i_ + nI 1) rfl rfl ?_
          refine wp_goto 14 d_Asker_weighWasps_130 rfl ?_
          exact ih _ _ _ _ _ _ h
        refine wp_iload_n d_Asker_weighWasps_104 rfl rfl ?_
        refine wz_ne 119 d_Asker_weighWasps_105 rfl (fun h105 => ?_) (fun h105 => ?_)
        · replace e41 := inn e41 h105
          cases e41
          exact k39 _ _
        · replace e41 := ip e41 h105
          refine wp_aload_n d_Asker_weighWasps_108 rfl rfl ?_
          refine wl_getR d_Asker_weighWasps_109 lf_Asker_24 sh_136 rfl ?_
          refine wr_aload d_Asker_weighWasps_112 rfl ?_
          obtain ⟨c44, e45, e41⟩ := ob1_some e41
          refine wr_deref e45 ?_
          have tc44 := dT_th e45
          refine wl_getI d_Asker_weighWasps_114 lf_Asker_88 (shTh tc44) rfl rfl ?_
          refine wp_iconst d_Asker_weighWasps_117 (v := nI 1) rfl ?_
          obtain ⟨M47, e46, e41⟩ := ob1_some e41
          refine wa_ast d_Asker_weighWasps_118 sh_141 e46 ?_
          cases e41
          exact k39 _ _
      refine wr_aload d_Asker_weighWasps_27 rfl ?_
      refine wr_ifnull 127 d_Asker_weighWasps_29 rfl (fun h29 => ?_) (fun h29 => ?_)
      · replace e6 := ip e6 h29
        cases e6
        exact k9 _ _ rfl
      · replace e6 := inn e6 h29
        refine wr_aload d_Asker_weighWasps_32 rfl ?_
        obtain ⟨c49, e50, e6⟩ := ob1_some e6
        refine wr_deref e50 ?_
        have tc49 := dT_th e50
        refine wl_getI d_Asker_weighWasps_34 lf_Asker_63 (shTh tc49) rfl rfl ?_
        refine wp_iconst d_Asker_weighWasps_37 (v := nI 4) rfl ?_
        refine wq_icmp_eq 44 d_Asker_weighWasps_38 rfl (fun h38 => ?_) (fun h38 => ?_)
        · cases e6
          exact k11 _ _ (fun z => (fun z => z h38) (of_decide_eq_true z))
        · cases e6
          refine wp_goto 127 d_Asker_weighWasps_41 rfl ?_
          exact k9 _ _ (decide_eq_true h38)
theorem s_Asker_weighWasps {w_world : Nat} {M : mM} {r : Int32} {M' : mM} (hw_world : isW w_world) (h : F_Asker_weighWasps z w_world M = some (r, M')) (hq : Q (some (.int r)) (lay M')) : Sp X (d + 3) f_Asker_weighWasps [.ref 136, .ref w_world] (lay M) Q := by
  refine Sp_of (by decide) rfl (Nat.le_of_ble_eq_true rfl) ?_
  refine wp_iconst d_Asker_weighWasps_0 (v := nI 0) rfl ?_
  refine wp_istore_n d_Asker_weighWasps_1 rfl (by decide) ?_
  refine wp_aload_n d_Asker_weighWasps_2 rfl rfl ?_
  refine wl_getR d_Asker_weighWasps_3 lf_Asker_24 sh_136 rfl ?_
  refine wp_sipush d_Asker_weighWasps_6 (v := nI 1000) rfl ?_
  obtain ⟨M1, e2, h⟩ := ob1_some h
  refine wl_callS2 d_Asker_weighWasps_9 lc_Arrays_fill ls_Asker_34 rfl ⟨rfl, rfl⟩ ⟨by decide, by decide⟩ ?_
  refine s_Arrays_fill (d := d + 2) sh_141 e2 ?_
  refine wp_iconst d_Asker_weighWasps_12 (v := nI 0) rfl ?_
  refine wp_istore_n d_Asker_weighWasps_13 rfl (by decide) ?_
  obtain ⟨total_51, M52, e53, h⟩ := ob2_some h
  refine l_Asker_weighWasps_1 hw_world ?_ _ _ _ _ _ _ _ e53
  intro u3 u4 u5 u6
  refine wp_iload_n d_Asker_weighWasps_133 rfl rfl ?_
  cases h
  exact wp_iret d_Asker_weighWasps_134 rfl rfl rfl hq
end S149
