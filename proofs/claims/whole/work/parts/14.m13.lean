/-! methods as functions: printed by program -/
section S1413
variable {X : mXs} {d z : Nat} {Q : Option Value → mH → Prop}
def L_Mod_readSum_1 (z : Nat) (kt : mM → Option (Int32 × mM)) : Nat → mM → Option (Int32 × mM)
  | 0, _ => none
  | n + 1, M =>
    if ((F_Mod_isSign (nI 43) M) = true ∨ (F_Mod_isSign (nI 45) M) = true) then
    ob1 (some ((if (M 312 12) = (nI 43) then nI 2 else nI 3))) fun v14 =>
    ob1 (F_Mod_reads z M) fun M16 =>
    ob2 (ob2 (F_Mod_readProduct z M16) fun v30 M31 =>
    some (decide (v30 = (-1)), M31)) fun x18 M20 =>
    if x18 = true then
    some ((-1), M20)
    else
    ob1 (F_Mod_emits v14 (nI 0) M20) fun M28 =>
    L_Mod_readSum_1 z kt n M28
    else
    kt M
def F_Mod_readSum (z : Nat) (M : mM) : Option (Int32 × mM) :=
  ob2 (ob2 (F_Mod_readProduct z M) fun v34 M35 =>
  some (decide (v34 = (-1)), M35)) fun x1 M3 =>
  if x1 = true then
  some ((-1), M3)
  else
  L_Mod_readSum_1 z (fun (M33 : mM) =>
  some (nI 0, M33)) z M3
theorem l_Mod_readSum_1 {kt : mM → Option (Int32 × mM)}  {r : Int32} {M' : mM} (hq : Q (some (.int r)) (lay M')) (K : ∀ (N1 : mM) (u1 : Value), kt  N1 = some (r, M') → wp X (d + 5) f_Mod_readSum (0, 0) 66 [.ref 312, u1] [] (lay N1) Q) : ∀ (n : Nat)  (M : mM) (u1 : Value), L_Mod_readSum_1 z kt n M = some (r, M') → wp X (d + 5) f_Mod_readSum (0, 0) 10 [.ref 312, u1] [] (lay M) Q := by
  intro n
  induction n with
  | zero => intro M u1 h; exact nn h
  | succ n ih =>
    intro M u1 h
    have k11 : ∀ u1 : Value, ((F_Mod_isSign (nI 43) M) = true ∨ (F_Mod_isSign (nI 45) M) = true) → wp X (d + 5) f_Mod_readSum (0, 0) 28 [.ref 312, u1] [] (lay M) Q := by
      intro u1 x12
      replace h := ip h x12
      have k13 : ∀ u1 : Value, wp X (d + 5) f_Mod_readSum (0, 0) 42 [.ref 312, u1] [.int (if (M 312 12) = (nI 43) then nI 2 else nI 3)] (lay M) Q := by
        intro u1
        obtain ⟨v14, e15, h⟩ := ob1_some h
        refine wx_int e15 ?_
        refine wp_istore_n d_Mod_readSum_42 rfl (by decide) ?_
        refine wp_aload_n d_Mod_readSum_43 rfl rfl ?_
        obtain ⟨M16, e17, h⟩ := ob1_some h
        refine wl_callV0 d_Mod_readSum_44 lc_Mod_reads lv_Mod_202 rfl sh_312 rfl rfl ⟨rfl, rfl⟩ ⟨by decide, by decide⟩ ?_
        refine s_Mod_reads (d := d + 2) e17 ?_
        obtain ⟨x18, M20, e19, h⟩ := ob2_some h
        have k24 : x18 = true → wp X (d + 5) f_Mod_readSum (0, 0) 55 [.ref 312, .int v14] [] (lay M20) Q := by
          intro x25
          replace h := ip h x25
          refine wp_iconst d_Mod_readSum_55 (v := (-1)) rfl ?_
          cases h
          exact wp_iret d_Mod_readSum_56 rfl rfl rfl hq
        have k26 : ¬ x18 = true → wp X (d + 5) f_Mod_readSum (0, 0) 57 [.ref 312, .int v14] [] (lay M20) Q := by
          intro x27
          replace h := inn h x27
          refine wp_aload_n d_Mod_readSum_57 rfl rfl ?_
          refine wp_iload_n d_Mod_readSum_58 rfl rfl ?_
          refine wp_iconst d_Mod_readSum_59 (v := nI 0) rfl ?_
          obtain ⟨M28, e29, h⟩ := ob1_some h
          refine wl_callV2 d_Mod_readSum_60 lc_Mod_emits lv_Mod_199 rfl sh_312 rfl rfl ⟨rfl, rfl⟩ ⟨by decide, by decide⟩ ?_
          refine s_Mod_emits (d := d + 4) e29 ?_
          refine wp_goto 10 d_Mod_readSum_63 rfl ?_
          exact ih _ _ h
        refine wp_aload_n d_Mod_readSum_47 rfl rfl ?_
        obtain ⟨v30, M31, e32, e19⟩ := ob2_some e19
        refine wl_callV0 d_Mod_readSum_48 lc_Mod_readProduct lv_Mod_212 rfl sh_312 rfl rfl ⟨rfl, rfl⟩ ⟨by decide, by decide⟩ ?_
        refine s_Mod_readProduct (d := d) e32 ?_
        refine wp_iconst d_Mod_readSum_51 (v := (-1)) rfl ?_
        refine wq_icmp_ne 57 d_Mod_readSum_52 rfl (fun h52 => ?_) (fun h52 => ?_)
        · cases e19
          exact k26 (fun z => h52 (of_decide_eq_true z))
        · cases e19
          exact k24 (decide_eq_true h52)
      refine wp_aload_n d_Mod_readSum_28 rfl rfl ?_
      refine wl_getI d_Mod_readSum_29 lf_Mod_168 sh_312 rfl rfl ?_
      refine wp_bipush d_Mod_readSum_32 (v := nI 43) rfl ?_
      refine wq_icmp_ne 41 d_Mod_readSum_34 rfl (fun h34 => ?_) (fun h34 => ?_)
      · refine wp_iconst d_Mod_readSum_41 (v := nI 3) rfl ?_
        exact wj_in h34 (k13 _)
      · refine wp_iconst d_Mod_readSum_37 (v := nI 2) rfl ?_
        refine wp_goto 42 d_Mod_readSum_38 rfl ?_
        exact wj_ip h34 (k13 _)
    refine wp_aload_n d_Mod_readSum_10 rfl rfl ?_
    refine wp_bipush d_Mod_readSum_11 (v := nI 43) rfl ?_
    refine wl_callV1 d_Mod_readSum_13 lc_Mod_isSign lv_Mod_209 rfl sh_312 rfl rfl ⟨rfl, rfl⟩ ⟨by decide, by decide⟩ ?_
    refine s_Mod_isSign (d := d + 4) rfl ?_
    refine wc_ne 28 d_Mod_readSum_16 rfl (fun h16 => ?_) (fun h16 => ?_)
    · exact k11 _ (Or.inl h16)
    · refine wp_aload_n d_Mod_readSum_19 rfl rfl ?_
      refine wp_bipush d_Mod_readSum_20 (v := nI 45) rfl ?_
      refine wl_callV1 d_Mod_readSum_22 lc_Mod_isSign lv_Mod_209 rfl sh_312 rfl rfl ⟨rfl, rfl⟩ ⟨by decide, by decide⟩ ?_
      refine s_Mod_isSign (d := d + 4) rfl ?_
      refine wc_eq 66 d_Mod_readSum_25 rfl (fun h25 => ?_) (fun h25 => ?_)
      · replace h := inn h (fun z => z.elim h16 h25)
        exact K _ _ h
      · exact k11 _ (Or.inr h25)
theorem s_Mod_readSum {M : mM} {r : Int32} {M' : mM} (h : F_Mod_readSum z M = some (r, M')) (hq : Q (some (.int r)) (lay M')) : Sp X (d + 5) f_Mod_readSum [.ref 312] (lay M) Q := by
  refine Sp_of (by decide) rfl (Nat.le_of_ble_eq_true rfl) ?_
  obtain ⟨x1, M3, e2, h⟩ := ob2_some h
  have k7 : ∀ u1 : Value, x1 = true → wp X (d + 5) f_Mod_readSum (0, 0) 8 [.ref 312, u1] [] (lay M3) Q := by
    intro u1 x8
    replace h := ip h x8
    refine wp_iconst d_Mod_readSum_8 (v := (-1)) rfl ?_
    cases h
    exact wp_iret d_Mod_readSum_9 rfl rfl rfl hq
  have k9 : ∀ u1 : Value, ¬ x1 = true → wp X (d + 5) f_Mod_readSum (0, 0) 10 [.ref 312, u1] [] (lay M3) Q := by
    intro u1 x10
    replace h := inn h x10
    refine l_Mod_readSum_1 hq ?_ _ _ _ h
    intro M33 u1 h
    refine wp_iconst d_Mod_readSum_66 (v := nI 0) rfl ?_
    cases h
    exact wp_iret d_Mod_readSum_67 rfl rfl rfl hq
  refine wp_aload_n d_Mod_readSum_0 rfl rfl ?_
  obtain ⟨v34, M35, e36, e2⟩ := ob2_some e2
  refine wl_callV0 d_Mod_readSum_1 lc_Mod_readProduct lv_Mod_212 rfl sh_312 rfl rfl ⟨rfl, rfl⟩ ⟨by decide, by decide⟩ ?_
  refine s_Mod_readProduct (d := d) e36 ?_
  refine wp_iconst d_Mod_readSum_4 (v := (-1)) rfl ?_
  refine wq_icmp_ne 10 d_Mod_readSum_5 rfl (fun h5 => ?_) (fun h5 => ?_)
  · cases e2
    exact k9 _ (fun z => h5 (of_decide_eq_true z))
  · cases e2
    exact k7 _ (decide_eq_true h5)
def F_Mod_readCompared (z : Nat) (M : mM) : Option (Int32 × mM) :=
  ob2 (ob2 (F_Mod_readSum z M) fun v38 M39 =>
  some (decide (v38 = (-1)), M39)) fun x1 M3 =>
  if x1 = true then
  some ((-1), M3)
  else
  if ((¬ ((F_Mod_isSign (nI 60) M3) = true) ∧ ¬ ((F_Mod_isSign (nI 61) M3) = true)) ∧ ¬ ((F_Mod_isSign (nI 62) M3) = true)) then
  ob2 (F_Mod_errs (nI 1) M3) fun v35 M36 =>
  some (v35, M36)
  else
  ob1 (some ((if (M3 312 12) = (nI 60) then nI 6 else (if (M3 312 12) = (nI 61) then nI 7 else nI 8)))) fun v15 =>
  ob1 (F_Mod_reads z M3) fun M17 =>
  ob2 (ob2 (F_Mod_readSum z M17) fun v31 M32 =>
  some (decide (v31 = (-1)), M32)) fun x19 M21 =>
  if x19 = true then
  some ((-1), M21)
  else
  ob1 (F_Mod_emits v15 (nI 0) M21) fun M29 =>
  some (nI 0, M29)
theorem s_Mod_readCompared {M : mM} {r : Int32} {M' : mM} (h : F_Mod_readCompared z M = some (r, M')) (hq : Q (some (.int r)) (lay M')) : Sp X (d + 6) f_Mod_readCompared [.ref 312] (lay M) Q := by
  refine Sp_of (by decide) rfl (Nat.le_of_ble_eq_true rfl) ?_
  obtain ⟨x1, M3, e2, h⟩ := ob2_some h
  have k7 : ∀ u1 : Value, x1 = true → wp X (d + 6) f_Mod_readCompared (0, 0) 8 [.ref 312, u1] [] (lay M3) Q := by
    intro u1 x8
    replace h := ip h x8
    refine wp_iconst d_Mod_readCompared_8 (v := (-1)) rfl ?_
    cases h
    exact wp_iret d_Mod_readCompared_9 rfl rfl rfl hq
  have k9 : ∀ u1 : Value, ¬ x1 = true → wp X (d + 6) f_Mod_readCompared (0, 0) 10 [.ref 312, u1] [] (lay M3) Q := by
    intro u1 x10
    replace h := inn h x10
    have k11 : ∀ u1 : Value, ¬ ((¬ ((F_Mod_isSign (nI 60) M3) = true) ∧ ¬ ((F_Mod_isSign (nI 61) M3) = true)) ∧ ¬ ((F_Mod_isSign (nI 62) M3) = true)) → wp X (d + 6) f_Mod_readCompared (0, 0) 43 [.ref 312, u1] [] (lay M3) Q := by
      intro u1 x12
      replace h := inn h x12
      have k14 : ∀ u1 : Value, wp X (d + 6) f_Mod_readCompared (0, 0) 73 [.ref 312, u1] [.int (if (M3 312 12) = (nI 60) then nI 6 else (if (M3 312 12) = (nI 61) then nI 7 else nI 8))] (lay M3) Q := by
        intro u1
        obtain ⟨v15, e16, h⟩ := ob1_some h
        refine wx_int e16 ?_
        refine wp_istore_n d_Mod_readCompared_73 rfl (by decide) ?_
        refine wp_aload_n d_Mod_readCompared_74 rfl rfl ?_
        obtain ⟨M17, e18, h⟩ := ob1_some h
        refine wl_callV0 d_Mod_readCompared_75 lc_Mod_reads lv_Mod_202 rfl sh_312 rfl rfl ⟨rfl, rfl⟩ ⟨by decide, by decide⟩ ?_
        refine s_Mod_reads (d := d + 3) e18 ?_
        obtain ⟨x19, M21, e20, h⟩ := ob2_some h
        have k25 : x19 = true → wp X (d + 6) f_Mod_readCompared (0, 0) 86 [.ref 312, .int v15] [] (lay M21) Q := by
          intro x26
          replace h := ip h x26
          refine wp_iconst d_Mod_readCompared_86 (v := (-1)) rfl ?_
          cases h
          exact wp_iret d_Mod_readCompared_87 rfl rfl rfl hq
        have k27 : ¬ x19 = true → wp X (d + 6) f_Mod_readCompared (0, 0) 88 [.ref 312, .int v15] [] (lay M21) Q := by
          intro x28
          replace h := inn h x28
          refine wp_aload_n d_Mod_readCompared_88 rfl rfl ?_
          refine wp_iload_n d_Mod_readCompared_89 rfl rfl ?_
          refine wp_iconst d_Mod_readCompared_90 (v := nI 0) rfl ?_
          obtain ⟨M29, e30, h⟩ := ob1_some h
          refine wl_callV2 d_Mod_readCompared_91 lc_Mod_emits lv_Mod_199 rfl sh_312 rfl rfl ⟨rfl, rfl⟩ ⟨by decide, by decide⟩ ?_
          refine s_Mod_emits (d := d + 5) e30 ?_
          refine wp_iconst d_Mod_readCompared_94 (v := nI 0) rfl ?_
          cases h
          exact wp_iret d_Mod_readCompared_95 rfl rfl rfl hq
        refine wp_aload_n d_Mod_readCompared_78 rfl rfl ?_
        obtain ⟨v31, M32, e33, e20⟩ := ob2_some e20
        refine wl_callV0 d_Mod_readCompared_79 lc_Mod_readSum lv_Mod_215 rfl sh_312 rfl rfl ⟨rfl, rfl⟩ ⟨by decide, by decide⟩ ?_
        refine s_Mod_readSum (d := d) e33 ?_
        refine wp_iconst d_Mod_readCompared_82 (v := (-1)) rfl ?_
        refine wq_icmp_ne 88 d_Mod_readCompared_83 rfl (fun h83 => ?_) (fun h83 => ?_)
        · cases e20
          exact k27 (fun z => h83 (of_decide_eq_true z))
        · cases e20
          exact k25 (decide_eq_true h83)
      refine wp_aload_n d_Mod_readCompared_43 rfl rfl ?_
      refine wl_getI d_Mod_readCompared_44 lf_Mod_168 sh_312 rfl rfl ?_
      refine wp_bipush d_Mod_readCompared_47 (v := nI 60) rfl ?_
      refine wq_icmp_ne 57 d_Mod_readCompared_49 rfl (fun h49 => ?_) (fun h49 => ?_)
      · have k34 : ∀ u1 : Value, wp X (d + 6) f_Mod_readCompared (0, 0) 73 [.ref 312, u1] [.int (if (M3 312 12) = (nI 61) then nI 7 else nI 8)] (lay M3) Q := by
          intro u1
          exact wj_in h49 (k14 _)
        refine wp_aload_n d_Mod_readCompared_57 rfl rfl ?_
        refine wl_getI d_Mod_readCompared_58 lf_Mod_168 sh_312 rfl rfl ?_
        refine wp_bipush d_Mod_readCompared_61 (v := nI 61) rfl ?_
        refine wq_icmp_ne 71 d_Mod_readCompared_63 rfl (fun h63 => ?_) (fun h63 => ?_)
        · refine wp_bipush d_Mod_readCompared_71 (v := nI 8) rfl ?_
          exact wj_in h63 (k34 _)
        · refine wp_bipush d_Mod_readCompared_66 (v := nI 7) rfl ?_
          refine wp_goto 73 d_Mod_readCompared_68 rfl ?_
          exact wj_ip h63 (k34 _)
      · refine wp_bipush d_Mod_readCompared_52 (v := nI 6) rfl ?_
        refine wp_goto 73 d_Mod_readCompared_54 rfl ?_
        exact wj_ip h49 (k14 _)
    refine wp_aload_n d_Mod_readCompared_10 rfl rfl ?_
    refine wp_bipush d_Mod_readCompared_11 (v := nI 60) rfl ?_
    refine wl_callV1 d_Mod_readCompared_13 lc_Mod_isSign lv_Mod_209 rfl sh_312 rfl rfl ⟨rfl, rfl⟩ ⟨by decide, by decide⟩ ?_
    refine s_Mod_isSign (d := d + 5) rfl ?_
    refine wc_ne 43 d_Mod_readCompared_16 rfl (fun h16 => ?_) (fun h16 => ?_)
    · exact k11 _ (fun z => (fun z => (fun z => z h16) z.1) z.1)
    · refine wp_aload_n d_Mod_readCompared_19 rfl rfl ?_
      refine wp_bipush d_Mod_readCompared_20 (v := nI 61) rfl ?_
      refine wl_callV1 d_Mod_readCompared_22 lc_Mod_isSign lv_Mod_209 rfl sh_312 rfl rfl ⟨rfl, rfl⟩ ⟨by decide, by decide⟩ ?_
      refine s_Mod_isSign (d := d + 5) rfl ?_
      refine wc_ne 43 d_Mod_readCompared_25 rfl (fun h25 => ?_) (fun h25 => ?_)
      · exact k11 _ (fun z => (fun z => (fun z => z h25) z.2) z.1)
      · refine wp_aload_n d_Mod_readCompared_28 rfl rfl ?_
        refine wp_bipush d_Mod_readCompared_29 (v := nI 62) rfl ?_
        refine wl_callV1 d_Mod_readCompared_31 lc_Mod_isSign lv_Mod_209 rfl sh_312 rfl rfl ⟨rfl, rfl⟩ ⟨by decide, by decide⟩ ?_
        refine s_Mod_isSign (d := d + 5) rfl ?_
        refine wc_ne 43 d_Mod_readCompared_34 rfl (fun h34 => ?_) (fun h34 => ?_)
        · exact k11 _ (fun z => (fun z => z h34) z.2)
        · replace h := ip h ⟨⟨h16, h25⟩, h34⟩
          refine wp_aload_n d_Mod_readCompared_37 rfl rfl ?_
          refine wp_iconst d_Mod_readCompared_38 (v := nI 1) rfl ?_
          obtain ⟨v35, M36, e37, h⟩ := ob2_some h
          refine wl_callV1 d_Mod_readCompared_39 lc_Mod_errs lv_Mod_196 rfl sh_312 rfl rfl ⟨rfl, rfl⟩ ⟨by decide, by decide⟩ ?_
          refine s_Mod_errs (d := d + 5) e37 ?_
          cases h
          exact wp_iret d_Mod_readCompared_42 rfl rfl rfl hq
  refine wp_aload_n d_Mod_readCompared_0 rfl rfl ?_
  obtain ⟨v38, M39, e40, e2⟩ := ob2_some e2
  refine wl_callV0 d_Mod_readCompared_1 lc_Mod_readSum lv_Mod_215 rfl sh_312 rfl rfl ⟨rfl, rfl⟩ ⟨by decide, by decide⟩ ?_
  refine s_Mod_readSum (d := d) e40 ?_
  refine wp_iconst d_Mod_readCompared_4 (v := (-1)) rfl ?_
  refine wq_icmp_ne 10 d_Mod_readCompared_5 rfl (fun h5 => ?_) (fun h5 => ?_)
  · cases e2
    exact k9 _ (fun z => h5 (of_decide_eq_true z))
  · cases e2
    exact k7 _ (decide_eq_true h5)
def F_Mod_waits (what_ : Int32) (M : mM) : Option mM :=
  ob1 (wa M 326 40 (M 312 25) what_) fun M2 =>
  ob1 (some (up M2 312 25 ((M2 312 25) + (nI 1)))) fun M3 =>
  some M3
theorem s_Mod_waits {what_ : Int32} {M : mM} {M' : mM} (h : F_Mod_waits what_ M = some M') (hq : Q none (lay M')) : Sp X d f_Mod_waits [.ref 312, .int what_] (lay M) Q := by
  refine Sp_of (by decide) rfl (Nat.le_of_ble_eq_true rfl) ?_
  refine wp_aload_n d_Mod_waits_0 rfl rfl ?_
  refine wl_getR d_Mod_waits_1 lf_Mod_49 sh_312 rfl ?_
  refine wp_aload_n d_Mod_waits_4 rfl rfl ?_
  refine wl_getI d_Mod_waits_5 lf_Mod_218 sh_312 rfl rfl ?_
  refine wp_iload_n d_Mod_waits_8 rfl rfl ?_
  obtain ⟨M2, e1, h⟩ := ob1_some h
  refine wa_ast d_Mod_waits_9 sh_326 e1 ?_
  refine wp_aload_n d_Mod_waits_10 rfl rfl ?_
  refine wp_aload_n d_Mod_waits_11 rfl rfl ?_
  refine wl_getI d_Mod_waits_12 lf_Mod_218 sh_312 rfl rfl ?_
  refine wp_iconst d_Mod_waits_15 (v := nI 1) rfl ?_
  refine wp_iadd d_Mod_waits_16 ?_
  refine wl_put d_Mod_waits_17 lp_Mod_218 sh_312 rfl ⟨rfl, rfl⟩ ?_
  obtain ⟨M3, e4, h⟩ := ob1_some h
  refine wx_M e4 ?_
  cases h
  exact wp_ret d_Mod_waits_20 rfl rfl hq
def L_Mod_settles_1 (z : Nat) (what_ : Int32) : Nat → mM → Option (mM)
  | 0, _ => none
  | n + 1, M =>
    ob1 (if (nI 0) < (M 312 25) then ob1 (ra M 326 40 ((M 312 25) - (nI 1))) fun v18 =>
    some (decide (v18 = what_))
    else some (false)) fun x3 =>
    if x3 = true then
    ob1 (some (up M 312 25 ((M 312 25) - (nI 1)))) fun M9 =>
    ob1 (F_Mod_emits what_ (nI 0) M9) fun M11 =>
    if what_ = (nI 9) then
    ob1 (some (up M11 312 23 ((M11 312 23) - (nI 1)))) fun M13 =>
    L_Mod_settles_1 z what_ n M13
    else
    L_Mod_settles_1 z what_ n M11
    else
    some (M)
def F_Mod_settles (z : Nat) (what_ : Int32) (M : mM) : Option mM :=
  ob1 (L_Mod_settles_1 z what_ z M) fun M19 =>
  some M19
theorem l_Mod_settles_1 {what_ : Int32}  {N' : mM} (K : wp X (d + 1) f_Mod_settles (0, 0) 57 [.ref 312, .int what_] [] (lay N') Q) : ∀ (n : Nat)  (M : mM), L_Mod_settles_1 z what_ n M = some (N') → wp X (d + 1) f_Mod_settles (0, 0) 0 [.ref 312, .int what_] [] (lay M) Q := by
  intro n
  induction n with
  | zero => intro M h; exact nn h
  | succ n ih =>
    intro M h
    obtain ⟨x3, e4, h⟩ := ob1_some h
    have k7 : x3 = true → wp X (d + 1) f_Mod_settles (0, 0) 22 [.ref 312, .int what_] [] (lay M) Q := by
      intro x8
      replace h := ip h x8
      refine wp_aload_n d_Mod_settles_22 rfl rfl ?_
      refine wp_aload_n d_Mod_settles_23 rfl rfl ?_
      refine wl_getI d_Mod_settles_24 lf_Mod_218 sh_312 rfl rfl ?_
      refine wp_iconst d_Mod_settles_27 (v := nI 1) rfl ?_
      refine wp_isub d_Mod_settles_28 ?_
      refine wl_put d_Mod_settles_29 lp_Mod_218 sh_312 rfl ⟨rfl, rfl⟩ ?_
      obtain ⟨M9, e10, h⟩ := ob1_some h
      refine wx_M e10 ?_
      refine wp_aload_n d_Mod_settles_32 rfl rfl ?_
      refine wp_iload_n d_Mod_settles_33 rfl rfl ?_
      refine wp_iconst d_Mod_settles_34 (v := nI 0) rfl ?_
      obtain ⟨M11, e12, h⟩ := ob1_some h
      refine wl_callV2 d_Mod_settles_35 lc_Mod_emits lv_Mod_199 rfl sh_312 rfl rfl ⟨rfl, rfl⟩ ⟨by decide, by decide⟩ ?_
      refine s_Mod_emits (d := d) e12 ?_
      refine wp_iload_n d_Mod_settles_38 rfl rfl ?_
      refine wp_bipush d_Mod_settles_39 (v := nI 9) rfl ?_
      refine wq_icmp_ne 0 d_Mod_settles_41 rfl (fun h41 => ?_) (fun h41 => ?_)
      · replace h := inn h h41
        exact ih _ h
      · replace h := ip h h41
        refine wp_aload_n d_Mod_settles_44 rfl rfl ?_
        refine wp_aload_n d_Mod_settles_45 rfl rfl ?_
        refine wl_getI d_Mod_settles_46 lf_Mod_221 sh_312 rfl rfl ?_
        refine wp_iconst d_Mod_settles_49 (v := nI 1) rfl ?_
        refine wp_isub d_Mod_settles_50 ?_
        refine wl_put d_Mod_settles_51 lp_Mod_221 sh_312 rfl ⟨rfl, rfl⟩ ?_
        obtain ⟨M13, e14, h⟩ := ob1_some h
        refine wx_M e14 ?_
        refine wp_goto 0 d_Mod_settles_54 rfl ?_
        exact ih _ h
    have k15 : ¬ x3 = true → wp X (d + 1) f_Mod_settles (0, 0) 57 [.ref 312, .int what_] [] (lay M) Q := by
      intro x16
      replace h := inn h x16
      cases h
      exact K
    refine wp_aload_n d_Mod_settles_0 rfl rfl ?_
    refine wl_getI d_Mod_settles_1 lf_Mod_218 sh_312 rfl rfl ?_
    refine wz_le 57 d_Mod_settles_4 rfl (fun h4 => ?_) (fun h4 => ?_)
    · replace e4 := inn e4 h4
      cases e4
      exact k15 (fun z => Bool.noConfusion z)
    · replace e4 := ip e4 h4
      refine wp_aload_n d_Mod_settles_7 rfl rfl ?_
      refine wl_getR d_Mod_settles_8 lf_Mod_49 sh_312 rfl ?_
      refine wp_aload_n d_Mod_settles_11 rfl rfl ?_
      refine wl_getI d_Mod_settles_12 lf_Mod_218 sh_312 rfl rfl ?_
      refine wp_iconst d_Mod_settles_15 (v := nI 1) rfl ?_
      refine wp_isub d_Mod_settles_16 ?_
      obtain ⟨v18, e17, e4⟩ := ob1_some e4
      refine wa_ald d_Mod_settles_17 sh_326 e17 ?_
      refine wp_iload_n d_Mod_settles_18 rfl rfl ?_
      refine wq_icmp_ne 57 d_Mod_settles_19 rfl (fun h19 => ?_) (fun h19 => ?_)
      · cases e4
        exact k15 (fun z => h19 (of_decide_eq_true z))
      · cases e4
        exact k7 (decide_eq_true h19)
theorem s_Mod_settles {what_ : Int32} {M : mM} {M' : mM} (h : F_Mod_settles z what_ M = some M') (hq : Q none (lay M')) : Sp X (d + 1) f_Mod_settles [.ref 312, .int what_] (lay M) Q := by
  refine Sp_of (by decide) rfl (Nat.le_of_ble_eq_true rfl) ?_
  obtain ⟨M19, e20, h⟩ := ob1_some h
  refine l_Mod_settles_1 ?_ _ _ e20
  cases h
  exact wp_ret d_Mod_settles_57 rfl rfl hq
def L_Mod_readAny_1 (z : Nat) : Nat → Int32 → Bool → mM → Option (Int32 × mM)
  | 0, _, _, _ => none
  | n + 1, brackets_, due_, M =>
    if due_ = true then
    if ((F_Mod_isWord (nI 6) M) = true ∨ (F_Mod_isSign (nI 40) M) = true) then
    if (M 312 23) = (nI 8) then
    ob2 (F_Mod_errs (nI 3) M) fun v44 M45 =>
    some (v44, M45)
    else
    ob1 (some (up M 312 23 ((M 312 23) + (nI 1)))) fun M34 =>
    ob1 (if ¬ ((F_Mod_isWord (nI 6) M) = true) then
    some (brackets_ + (nI 1))
    else
    some (brackets_)) fun brackets_37 =>
    ob1 (F_Mod_waits (if (F_Mod_isWord (nI 6) M) = true then nI 9 else nI 12) M34) fun M40 =>
    ob1 (F_Mod_reads z M40) fun M42 =>
    L_Mod_readAny_1 z n brackets_37 due_ M42
    else
    ob2 (ob2 (F_Mod_readCompared z M) fun v59 M60 =>
    some (decide (v59 = (-1)), M60)) fun x47 M49 =>
    if x47 = true then
    some ((-1), M49)
    else
    ob1 (F_Mod_settles z (nI 9) M49) fun M57 =>
    L_Mod_readAny_1 z n brackets_ false M57
    else
    if (F_Mod_isWord (nI 5) M) = true then
    ob1 (F_Mod_settles z (nI 10) M) fun M26 =>
    ob1 (F_Mod_waits (nI 10) M26) fun M28 =>
    ob1 (F_Mod_reads z M28) fun M30 =>
    L_Mod_readAny_1 z n brackets_ true M30
    else
    if (F_Mod_isWord (nI 4) M) = true then
    ob1 (F_Mod_settles z (nI 10) M) fun M18 =>
    ob1 (F_Mod_settles z (nI 11) M18) fun M20 =>
    ob1 (F_Mod_waits (nI 11) M20) fun M22 =>
    ob1 (F_Mod_reads z M22) fun M24 =>
    L_Mod_readAny_1 z n brackets_ true M24
    else
    ob1 (F_Mod_settles z (nI 10) M) fun M3 =>
    ob1 (F_Mod_settles z (nI 11) M3) fun M5 =>
    if brackets_ = (nI 0) then
    some (nI 0, M5)
    else
    if ¬ ((F_Mod_isSign (nI 41) M5) = true) then
    ob2 (F_Mod_errs (nI 1) M5) fun v15 M16 =>
    some (v15, M16)
    else
    ob1 (some (up M5 312 25 ((M5 312 25) - (nI 1)))) fun M7 =>
    ob1 (some (up M7 312 23 ((M7 312 23) - (nI 1)))) fun M9 =>
    ob1 (F_Mod_settles z (nI 9) M9) fun M11 =>
    ob1 (F_Mod_reads z M11) fun M13 =>
    L_Mod_readAny_1 z n (brackets_ - (nI 1)) due_ M13
def F_Mod_readAny (z : Nat) (M : mM) : Option (Int32 × mM) :=
  ob1 (some (up M 312 25 (nI 0))) fun M1 =>
  L_Mod_readAny_1 z z (nI 0) true M1
theorem l_Mod_readAny_1  {r : Int32} {M' : mM} (hq : Q (some (.int r)) (lay M')) : ∀ (n : Nat) (brackets_ : Int32) (due_ : Bool) (M : mM) (u3 : Value), L_Mod_readAny_1 z n brackets_ due_ M = some (r, M') → wp X (d + 7) f_Mod_readAny (0, 0) 9 [.ref 312, .int brackets_, .int (bI due_), u3] [] (lay M) Q := by
  intro n
  induction n with
  | zero => intro brackets_ due_ M u3 h; exact nn h
  | succ n ih =>
    intro brackets_ due_ M u3 h
    refine wp_iload_n d_Mod_readAny_9 rfl rfl ?_
    refine wc_eq 109 d_Mod_readAny_10 rfl (fun h10 => ?_) (fun h10 => ?_)
    · replace h := inn h h10
      refine wp_aload_n d_Mod_readAny_109 rfl rfl ?_
      refine wp_iconst d_Mod_readAny_110 (v := nI 5) rfl ?_
      refine wl_callV1 d_Mod_readAny_111 lc_Mod_isWord lv_Mod_224 rfl sh_312 rfl rfl ⟨rfl, rfl⟩ ⟨by decide, by decide⟩ ?_
      refine s_Mod_isWord (d := d + 6) rfl ?_
      refine wc_eq 138 d_Mod_readAny_114 rfl (fun h114 => ?_) (fun h114 => ?_)
      · replace h := inn h h114
        refine wp_aload_n d_Mod_readAny_138 rfl rfl ?_
        refine wp_iconst d_Mod_readAny_139 (v := nI 4) rfl ?_
        refine wl_callV1 d_Mod_readAny_140 lc_Mod_isWord lv_Mod_224 rfl sh_312 rfl rfl ⟨rfl, rfl⟩ ⟨by decide, by decide⟩ ?_
        refine s_Mod_isWord (d := d + 6) rfl ?_
        refine wc_eq 173 d_Mod_readAny_143 rfl (fun h143 => ?_) (fun h143 => ?_)
        · replace h := inn h h143
          refine wp_aload_n d_Mod_readAny_173 rfl rfl ?_
          refine wp_bipush d_Mod_readAny_174 (v := nI 10) rfl ?_
          obtain ⟨M3, e4, h⟩ := ob1_some h
          refine wl_callV1 d_Mod_readAny_176 lc_Mod_settles lv_Mod_233 rfl sh_312 rfl rfl ⟨rfl, rfl⟩ ⟨by decide, by decide⟩ ?_
          refine s_Mod_settles (d := d + 5) e4 ?_
          refine wp_aload_n d_Mod_readAny_179 rfl rfl ?_
          refine wp_bipush d_Mod_readAny_180 (v := nI 11) rfl ?_
          obtain ⟨M5, e6, h⟩ := ob1_some h
          refine wl_callV1 d_Mod_readAny_182 lc_Mod_settles lv_Mod_233 rfl sh_312 rfl rfl ⟨rfl, rfl⟩ ⟨by decide, by decide⟩ ?_
          refine s_Mod_settles (d := d + 5) e6 ?_
          refine wp_iload_n d_Mod_readAny_185 rfl rfl ?_
          refine wz_ne 191 d_Mod_readAny_186 rfl (fun h186 => ?_) (fun h186 => ?_)
          · replace h := inn h h186
            refine wp_aload_n d_Mod_readAny_191 rfl rfl ?_
            refine wp_bipush d_Mod_readAny_192 (v := nI 41) rfl ?_
            refine wl_callV1 d_Mod_readAny_194 lc_Mod_isSign lv_Mod_209 rfl sh_312 rfl rfl ⟨rfl, rfl⟩ ⟨by decide, by decide⟩ ?_
            refine s_Mod_isSign (d := d + 6) rfl ?_
            refine wc_ne 206 d_Mod_readAny_197 rfl (fun h197 => ?_) (fun h197 => ?_)
            · replace h := inn h (fun z => z h197)
              refine wp_aload_n d_Mod_readAny_206 rfl rfl ?_
              refine wp_aload_n d_Mod_readAny_207 rfl rfl ?_
              refine wl_getI d_Mod_readAny_208 lf_Mod_218 sh_312 rfl rfl ?_
              refine wp_iconst d_Mod_readAny_211 (v := nI 1) rfl ?_
              refine wp_isub d_Mod_readAny_212 ?_
              refine wl_put d_Mod_readAny_213 lp_Mod_218 sh_312 rfl ⟨rfl, rfl⟩ ?_
              obtain ⟨M7, e8, h⟩ := ob1_some h
              refine wx_M e8 ?_
              refine wp_iload_n d_Mod_readAny_216 rfl rfl ?_
              refine wp_iconst d_Mod_readAny_217 (v := nI 1) rfl ?_
              refine wp_isub d_Mod_readAny_218 ?_
              refine wp_istore_n d_Mod_readAny_219 rfl (by decide) ?_
              refine wp_aload_n d_Mod_readAny_220 rfl rfl ?_
              refine wp_aload_n d_Mod_readAny_221 rfl rfl ?_
              refine wl_getI d_Mod_readAny_222 lf_Mod_221 sh_312 rfl rfl ?_
              refine wp_iconst d_Mod_readAny_225 (v := nI 1) rfl ?_
              refine wp_isub d_Mod_readAny_226 ?_
              refine wl_put d_Mod_readAny_227 lp_Mod_221 sh_312 rfl ⟨rfl, rfl⟩ ?_
              obtain ⟨M9, e10, h⟩ := ob1_some h
              refine wx_M e10 ?_
              refine wp_aload_n d_Mod_readAny_230 rfl rfl ?_
              refine wp_bipush d_Mod_readAny_231 (v := nI 9) rfl ?_
              obtain ⟨M11, e12, h⟩ := ob1_some h
              refine wl_callV1 d_Mod_readAny_233 lc_Mod_settles lv_Mod_233 rfl sh_312 rfl rfl ⟨rfl, rfl⟩ ⟨by decide, by decide⟩ ?_
              refine s_Mod_settles (d := d + 5) e12 ?_
              refine wp_aload_n d_Mod_readAny_236 rfl rfl ?_
              obtain ⟨M13, e14, h⟩ := ob1_some h
              refine wl_callV0 d_Mod_readAny_237 lc_Mod_reads lv_Mod_202 rfl sh_312 rfl rfl ⟨rfl, rfl⟩ ⟨by decide, by decide⟩ ?_
              refine s_Mod_reads (d := d + 4) e14 ?_
              refine wp_goto 9 d_Mod_readAny_240 rfl ?_
              exact ih _ _ _ _ h
            · replace h := ip h h197
              refine wp_aload_n d_Mod_readAny_200 rfl rfl ?_
              refine wp_iconst d_Mod_readAny_201 (v := nI 1) rfl ?_
              obtain ⟨v15, M16, e17, h⟩ := ob2_some h
              refine wl_callV1 d_Mod_readAny_202 lc_Mod_errs lv_Mod_196 rfl sh_312 rfl rfl ⟨rfl, rfl⟩ ⟨by decide, by decide⟩ ?_
              refine s_Mod_errs (d := d + 6) e17 ?_
              cases h
              exact wp_iret d_Mod_readAny_205 rfl rfl rfl hq
          · replace h := ip h h186
            refine wp_iconst d_Mod_readAny_189 (v := nI 0) rfl ?_
            cases h
            exact wp_iret d_Mod_readAny_190 rfl rfl rfl hq
        · replace h := ip h h143
          refine wp_aload_n d_Mod_readAny_146 rfl rfl ?_
          refine wp_bipush d_Mod_readAny_147 (v := nI 10) rfl ?_
          obtain ⟨M18, e19, h⟩ := ob1_some h
          refine wl_callV1 d_Mod_readAny_149 lc_Mod_settles lv_Mod_233 rfl sh_312 rfl rfl ⟨rfl, rfl⟩ ⟨by decide, by decide⟩ ?_
          refine s_Mod_settles (d := d + 5) e19 ?_
          refine wp_aload_n d_Mod_readAny_152 rfl rfl ?_
          refine wp_bipush d_Mod_readAny_153 (v := nI 11) rfl ?_
          obtain ⟨M20, e21, h⟩ := ob1_some h
          refine wl_callV1 d_Mod_readAny_155 lc_Mod_settles lv_Mod_233 rfl sh_312 rfl rfl ⟨rfl, rfl⟩ ⟨by decide, by decide⟩ ?_
          refine s_Mod_settles (d := d + 5) e21 ?_
          refine wp_aload_n d_Mod_readAny_158 rfl rfl ?_
          refine wp_bipush d_Mod_readAny_159 (v := nI 11) rfl ?_
          obtain ⟨M22, e23, h⟩ := ob1_some h
          refine wl_callV1 d_Mod_readAny_161 lc_Mod_waits lv_Mod_227 rfl sh_312 rfl rfl ⟨rfl, rfl⟩ ⟨by decide, by decide⟩ ?_
          refine s_Mod_waits (d := d + 6) e23 ?_
          refine wp_aload_n d_Mod_readAny_164 rfl rfl ?_
          obtain ⟨M24, e25, h⟩ := ob1_some h
          refine wl_callV0 d_Mod_readAny_165 lc_Mod_reads lv_Mod_202 rfl sh_312 rfl rfl ⟨rfl, rfl⟩ ⟨by decide, by decide⟩ ?_
          refine s_Mod_reads (d := d + 4) e25 ?_
          refine wp_iconst d_Mod_readAny_168 (v := bI true) rfl ?_
          refine wp_istore_n d_Mod_readAny_169 rfl (by decide) ?_
          refine wp_goto 9 d_Mod_readAny_170 rfl ?_
          exact ih _ _ _ _ h
      · replace h := ip h h114
        refine wp_aload_n d_Mod_readAny_117 rfl rfl ?_
        refine wp_bipush d_Mod_readAny_118 (v := nI 10) rfl ?_
        obtain ⟨M26, e27, h⟩ := ob1_some h
        refine wl_callV1 d_Mod_readAny_120 lc_Mod_settles lv_Mod_233 rfl sh_312 rfl rfl ⟨rfl, rfl⟩ ⟨by decide, by decide⟩ ?_
        refine s_Mod_settles (d := d + 5) e27 ?_
        refine wp_aload_n d_Mod_readAny_123 rfl rfl ?_
        refine wp_bipush d_Mod_readAny_124 (v := nI 10) rfl ?_
        obtain ⟨M28, e29, h⟩ := ob1_some h
        refine wl_callV1 d_Mod_readAny_126 lc_Mod_waits lv_Mod_227 rfl sh_312 rfl rfl ⟨rfl, rfl⟩ ⟨by decide, by decide⟩ ?_
        refine s_Mod_waits (d := d + 6) e29 ?_
        refine wp_aload_n d_Mod_readAny_129 rfl rfl ?_
        obtain ⟨M30, e31, h⟩ := ob1_some h
        refine wl_callV0 d_Mod_readAny_130 lc_Mod_reads lv_Mod_202 rfl sh_312 rfl rfl ⟨rfl, rfl⟩ ⟨by decide, by decide⟩ ?_
        refine s_Mod_reads (d := d + 4) e31 ?_
        refine wp_iconst d_Mod_readAny_133 (v := bI true) rfl ?_
        refine wp_istore_n d_Mod_readAny_134 rfl (by decide) ?_
        refine wp_goto 9 d_Mod_readAny_135 rfl ?_
        exact ih _ _ _ _ h
    · replace h := ip h h10
      refine wp_aload_n d_Mod_readAny_13 rfl rfl ?_
      refine wp_bipush d_Mod_readAny_14 (v := nI 6) rfl ?_
      refine wl_callV1 d_Mod_readAny_16 lc_Mod_isWord lv_Mod_224 rfl sh_312 rfl rfl ⟨rfl, rfl⟩ ⟨by decide, by decide⟩ ?_
      refine s_Mod_isWord (d := d + 6) rfl ?_
      refine wp_istore_n d_Mod_readAny_19 rfl (by decide) ?_
      have k32 : ((F_Mod_isWord (nI 6) M) = true ∨ (F_Mod_isSign (nI 40) M) = true) → wp X (d + 7) f_Mod_readAny (0, 0) 33 [.ref 312, .int brackets_, .int (bI due_), .int (bI (F_Mod_isWord (nI 6) M))] [] (lay M) Q := by
        intro x33
        replace h := ip h x33
        refine wp_aload_n d_Mod_readAny_33 rfl rfl ?_
        refine wl_getI d_Mod_readAny_34 lf_Mod_221 sh_312 rfl rfl ?_
        refine wp_bipush d_Mod_readAny_37 (v := nI 8) rfl ?_
        refine wq_icmp_ne 48 d_Mod_readAny_39 rfl (fun h39 => ?_) (fun h39 => ?_)
        · replace h := inn h h39
          refine wp_aload_n d_Mod_readAny_48 rfl rfl ?_
          refine wp_aload_n d_Mod_readAny_49 rfl rfl ?_
          refine wl_getI d_Mod_readAny_50 lf_Mod_221 sh_312 rfl rfl ?_
          refine wp_iconst d_Mod_readAny_53 (v := nI 1) rfl ?_
          refine wp_iadd d_Mod_readAny_54 ?_
          refine wl_put d_Mod_readAny_55 lp_Mod_221 sh_312 rfl ⟨rfl, rfl⟩ ?_
          obtain ⟨M34, e35, h⟩ := ob1_some h
          refine wx_M e35 ?_
          obtain ⟨brackets_37, e38, h⟩ := ob1_some h
          have k36 : wp X (d + 7) f_Mod_readAny (0, 0) 66 [.ref 312, .int brackets_37, .int (bI due_), .int (bI (F_Mod_isWord (nI 6) M))] [] (lay M34) Q := by
            refine wp_aload_n d_Mod_readAny_66 rfl rfl ?_
            have k39 : wp X (d + 7) f_Mod_readAny (0, 0) 78 [.ref 312, .int brackets_37, .int (bI due_), .int (bI (F_Mod_isWord (nI 6) M))] [.int (if (F_Mod_isWord (nI 6) M) = true then nI 9 else nI 12), .ref 312] (lay M34) Q := by
              obtain ⟨M40, e41, h⟩ := ob1_some h
              refine wl_callV1 d_Mod_readAny_78 lc_Mod_waits lv_Mod_227 rfl sh_312 rfl rfl ⟨rfl, rfl⟩ ⟨by decide, by decide⟩ ?_
              refine s_Mod_waits (d := d + 6) e41 ?_
              refine wp_aload_n d_Mod_readAny_81 rfl rfl ?_
              obtain ⟨M42, e43, h⟩ := ob1_some h
              refine wl_callV0 d_Mod_readAny_82 lc_Mod_reads lv_Mod_202 rfl sh_312 rfl rfl ⟨rfl, rfl⟩ ⟨by decide, by decide⟩ ?_
              refine s_Mod_reads (d := d + 4) e43 ?_
              refine wp_goto 9 d_Mod_readAny_85 rfl ?_
              exact ih _ _ _ _ h
            refine wp_iload_n d_Mod_readAny_67 rfl rfl ?_
            refine wc_eq 76 d_Mod_readAny_68 rfl (fun h68 => ?_) (fun h68 => ?_)
            · refine wp_bipush d_Mod_readAny_76 (v := nI 12) rfl ?_
              exact wj_in h68 (k39)
            · refine wp_bipush d_Mod_readAny_71 (v := nI 9) rfl ?_
              refine wp_goto 78 d_Mod_readAny_73 rfl ?_
              exact wj_ip h68 (k39)
          refine wp_iload_n d_Mod_readAny_58 rfl rfl ?_
          refine wc_ne 66 d_Mod_readAny_59 rfl (fun h59 => ?_) (fun h59 => ?_)
          · replace e38 := inn e38 (fun z => z h59)
            cases e38
            exact k36
          · replace e38 := ip e38 h59
            refine wp_iload_n d_Mod_readAny_62 rfl rfl ?_
            refine wp_iconst d_Mod_readAny_63 (v := nI 1) rfl ?_
            refine wp_iadd d_Mod_readAny_64 ?_
            refine wp_istore_n d_Mod_readAny_65 rfl (by decide) ?_
            cases e38
            exact k36
        · replace h := ip h h39
          refine wp_aload_n d_Mod_readAny_42 rfl rfl ?_
          refine wp_iconst d_Mod_readAny_43 (v := nI 3) rfl ?_
          obtain ⟨v44, M45, e46, h⟩ := ob2_some h
          refine wl_callV1 d_Mod_readAny_44 lc_Mod_errs lv_Mod_196 rfl sh_312 rfl rfl ⟨rfl, rfl⟩ ⟨by decide, by decide⟩ ?_
          refine s_Mod_errs (d := d + 6) e46 ?_
          cases h
          exact wp_iret d_Mod_readAny_47 rfl rfl rfl hq
      refine wp_iload_n d_Mod_readAny_20 rfl rfl ?_
      refine wc_ne 33 d_Mod_readAny_21 rfl (fun h21 => ?_) (fun h21 => ?_)
      · exact k32 (Or.inl h21)
      · refine wp_aload_n d_Mod_readAny_24 rfl rfl ?_
        refine wp_bipush d_Mod_readAny_25 (v := nI 40) rfl ?_
        refine wl_callV1 d_Mod_readAny_27 lc_Mod_isSign lv_Mod_209 rfl sh_312 rfl rfl ⟨rfl, rfl⟩ ⟨by decide, by decide⟩ ?_
        refine s_Mod_isSign (d := d + 6) rfl ?_
        refine wc_eq 88 d_Mod_readAny_30 rfl (fun h30 => ?_) (fun h30 => ?_)
        · replace h := inn h (fun z => z.elim h21 h30)
          obtain ⟨x47, M49, e48, h⟩ := ob2_some h
          have k53 : x47 = true → wp X (d + 7) f_Mod_readAny (0, 0) 96 [.ref 312, .int brackets_, .int (bI due_), .int (bI (F_Mod_isWord (nI 6) M))] [] (lay M49) Q := by
            intro x54
            replace h := ip h x54
            refine wp_iconst d_Mod_readAny_96 (v := (-1)) rfl ?_
            cases h
            exact wp_iret d_Mod_readAny_97 rfl rfl rfl hq
          have k55 : ¬ x47 = true → wp X (d + 7) f_Mod_readAny (0, 0) 98 [.ref 312, .int brackets_, .int (bI due_), .int (bI (F_Mod_isWord (nI 6) M))] [] (lay M49) Q := by
            intro x56
            replace h := inn h x56
            refine wp_aload_n d_Mod_readAny_98 rfl rfl ?_
            refine wp_bipush d_Mod_readAny_99 (v := nI 9) rfl ?_
            obtain ⟨M57, e58, h⟩ := ob1_some h
            refine wl_callV1 d_Mod_readAny_101 lc_Mod_settles lv_Mod_233 rfl sh_312 rfl rfl ⟨rfl, rfl⟩ ⟨by decide, by decide⟩ ?_
            refine s_Mod_settles (d := d + 5) e58 ?_
            refine wp_iconst d_Mod_readAny_104 (v := bI false) rfl ?_
            refine wp_istore_n d_Mod_readAny_105 rfl (by decide) ?_
            refine wp_goto 9 d_Mod_readAny_106 rfl ?_
            exact ih _ _ _ _ h
          refine wp_aload_n d_Mod_readAny_88 rfl rfl ?_
          obtain ⟨v59, M60, e61, e48⟩ := ob2_some e48
          refine wl_callV0 d_Mod_readAny_89 lc_Mod_readCompared lv_Mod_230 rfl sh_312 rfl rfl ⟨rfl, rfl⟩ ⟨by decide, by decide⟩ ?_
          refine s_Mod_readCompared (d := d) e61 ?_
          refine wp_iconst d_Mod_readAny_92 (v := (-1)) rfl ?_
          refine wq_icmp_ne 98 d_Mod_readAny_93 rfl (fun h93 => ?_) (fun h93 => ?_)
          · cases e48
            exact k55 (fun z => h93 (of_decide_eq_true z))
          · cases e48
            exact k53 (decide_eq_true h93)
        · exact k32 (Or.inr h30)
theorem s_Mod_readAny {M : mM} {r : Int32} {M' : mM} (h : F_Mod_readAny z M = some (r, M')) (hq : Q (some (.int r)) (lay M')) : Sp X (d + 7) f_Mod_readAny [.ref 312] (lay M) Q := by
  refine Sp_of (by decide) rfl (Nat.le_of_ble_eq_true rfl) ?_
  refine wp_iconst d_Mod_readAny_0 (v := nI 0) rfl ?_
  refine wp_istore_n d_Mod_readAny_1 rfl (by decide) ?_
  refine wp_aload_n d_Mod_readAny_2 rfl rfl ?_
  refine wp_iconst d_Mod_readAny_3 (v := nI 0) rfl ?_
  refine wl_put d_Mod_readAny_4 lp_Mod_218 sh_312 rfl ⟨rfl, rfl⟩ ?_
  obtain ⟨M1, e2, h⟩ := ob1_some h
  refine wx_M e2 ?_
  refine wp_iconst d_Mod_readAny_7 (v := bI true) rfl ?_
  refine wp_istore_n d_Mod_readAny_8 rfl (by decide) ?_
  exact l_Mod_readAny_1 hq _ _ _ _ _ h
def F_Mod_isLineWord (M : mM) : Bool :=
  decide (((M 312 11) = (nI 2) ∧ (F_Mod_isIn (M 312 12) (nI 0) (nI 2)) = true))
theorem s_Mod_isLineWord {M : mM} {r : Bool} (h : F_Mod_isLineWord M = r) (hq : Q (some (.int (bI r))) (lay M)) : Sp X (d + 1) f_Mod_isLineWord [.ref 312] (lay M) Q := by
  refine Sp_of (by decide) rfl (Nat.le_of_ble_eq_true rfl) ?_
  have k1 : wp X (d + 1) f_Mod_isLineWord (0, 0) 26 [.ref 312] [.int (bI (decide (((M 312 11) = (nI 2) ∧ (F_Mod_isIn (M 312 12) (nI 0) (nI 2)) = true))))] (lay M) Q := by
    cases h
    exact wb_iret d_Mod_isLineWord_26 rfl rfl hq
  refine wp_aload_n d_Mod_isLineWord_0 rfl rfl ?_
  refine wl_getI d_Mod_isLineWord_1 lf_Mod_165 sh_312 rfl rfl ?_
  refine wp_iconst d_Mod_isLineWord_4 (v := nI 2) rfl ?_
  refine wq_icmp_ne 25 d_Mod_isLineWord_5 rfl (fun h5 => ?_) (fun h5 => ?_)
  · refine wp_iconst d_Mod_isLineWord_25 (v := nI 0) rfl ?_
    exact wj_f (fun z => h5 z.1) (k1)
  · refine wp_aload_n d_Mod_isLineWord_8 rfl rfl ?_
    refine wp_aload_n d_Mod_isLineWord_9 rfl rfl ?_
    refine wl_getI d_Mod_isLineWord_10 lf_Mod_168 sh_312 rfl rfl ?_
    refine wp_iconst d_Mod_isLineWord_13 (v := nI 0) rfl ?_
    refine wp_iconst d_Mod_isLineWord_14 (v := nI 2) rfl ?_
    refine wl_callV3 d_Mod_isLineWord_15 lc_Mod_isIn lv_Mod_135 rfl sh_312 rfl rfl ⟨rfl, rfl⟩ ⟨by decide, by decide⟩ ?_
    refine s_Mod_isIn (d := d) rfl ?_
    refine wc_eq 25 d_Mod_isLineWord_18 rfl (fun h18 => ?_) (fun h18 => ?_)
    · refine wp_iconst d_Mod_isLineWord_25 (v := nI 0) rfl ?_
      exact wj_f (fun z => h18 z.2) (k1)
    · refine wp_iconst d_Mod_isLineWord_21 (v := nI 1) rfl ?_
      refine wp_goto 26 d_Mod_isLineWord_22 rfl ?_
      exact wj_t ⟨h5, h18⟩ (k1)
def L_Mod_readLaw_1 (z : Nat) (kt : Int32 → mM → Option (Int32 × mM)) : Nat → Int32 → mM → Option (Int32 × mM)
  | 0, _, _ => none
  | n + 1, k_, M =>
    if (F_Mod_isLineWord M) = true then
    if k_ = (nI 16) then
    ob2 (F_Mod_errs (nI 3) M) fun v62 M63 =>
    some (v62, M63)
    else
    ob1 (wa M 320 48 ((nI 32) + k_) (M 312 12)) fun M2 =>
    ob1 (F_Mod_reads z M2) fun M3 =>
    ob1 (wa M3 321 48 ((nI 32) + k_) (M3 312 22)) fun M6 =>
    ob2 (ob2 (F_Mod_readSum z M6) fun v59 M60 =>
    some (decide (v59 = (-1)), M60)) fun x7 M9 =>
    if x7 = true then
    some ((-1), M9)
    else
    ob1 (wa M9 322 48 ((nI 32) + k_) (M9 312 22)) fun M18 =>
    jn (fun (M35 : mM) =>
    ob1 (wa M35 323 48 ((nI 32) + k_) (M35 312 22)) fun M38 =>
    if ¬ ((F_Mod_isSign (nI 59) M38) = true) then
    ob2 (F_Mod_errs (nI 1) M38) fun v41 M42 =>
    some (v41, M42)
    else
    ob1 (F_Mod_reads z M38) fun M39 =>
    L_Mod_readLaw_1 z kt n (k_ + (nI 1)) M39) fun kj36 =>
    if (F_Mod_isWord (nI 3) M18) = true then
    ob1 (F_Mod_reads z M18) fun M44 =>
    ob2 (ob2 (F_Mod_readAny z M44) fun v56 M57 =>
    some (decide (v56 = (-1)), M57)) fun x46 M48 =>
    if x46 = true then
    some ((-1), M48)
    else
    kj36 M48
    else
    kj36 M18
    else
    kt k_ M
def F_Mod_readLaw (z : Nat) (M : mM) : Option (Int32 × mM) :=
  L_Mod_readLaw_1 z (fun (k_65 : Int32) (M66 : mM) =>
  ob2 (if (M66 312 11) = (nI 0) then
  some (k_65, M66)
  else
  ob2 (F_Mod_errs (nI 1) M66) fun v74 M75 =>
  some (v74, M75)) fun v71 M73 =>
  some (v71, M73)) z (nI 0) M
theorem l_Mod_readLaw_1 {kt : Int32 → mM → Option (Int32 × mM)}  {r : Int32} {M' : mM} (hq : Q (some (.int r)) (lay M')) (K : ∀ (k_r : Int32) (N1 : mM) (u2 : Value), kt k_r N1 = some (r, M') → wp X (d + 8) f_Mod_readLaw (0, 0) 128 [.ref 312, .int k_r, u2] [] (lay N1) Q) : ∀ (n : Nat) (k_ : Int32) (M : mM) (u2 : Value), L_Mod_readLaw_1 z kt n k_ M = some (r, M') → wp X (d + 8) f_Mod_readLaw (0, 0) 2 [.ref 312, .int k_, u2] [] (lay M) Q := by
  intro n
  induction n with
  | zero => intro k_ M u2 h; exact nn h
  | succ n ih =>
    intro k_ M u2 h
    refine wp_aload_n d_Mod_readLaw_2 rfl rfl ?_
    refine wl_callV0 d_Mod_readLaw_3 lc_Mod_isLineWord lv_Mod_236 rfl sh_312 rfl rfl ⟨rfl, rfl⟩ ⟨by decide, by decide⟩ ?_
    refine s_Mod_isLineWord (d := d + 6) rfl ?_
    refine wc_eq 128 d_Mod_readLaw_6 rfl (fun h6 => ?_) (fun h6 => ?_)
    · replace h := inn h h6
      exact K _ _ _ h
    · replace h := ip h h6
      refine wp_iload_n d_Mod_readLaw_9 rfl rfl ?_
      refine wp_bipush d_Mod_readLaw_10 (v := nI 16) rfl ?_
      refine wq_icmp_ne 21 d_Mod_readLaw_12 rfl (fun h12 => ?_) (fun h12 => ?_)
      · replace h := inn h h12
        refine wp_bipush d_Mod_readLaw_21 (v := nI 32) rfl ?_
        refine wp_iload_n d_Mod_readLaw_23 rfl rfl ?_
        refine wp_iadd d_Mod_readLaw_24 ?_
        refine wp_istore_n d_Mod_readLaw_25 rfl (by decide) ?_
        refine wp_aload_n d_Mod_readLaw_26 rfl rfl ?_
        refine wl_getR d_Mod_readLaw_27 lf_Mod_31 sh_312 rfl ?_
        refine wp_iload_n d_Mod_readLaw_30 rfl rfl ?_
        refine wp_aload_n d_Mod_readLaw_31 rfl rfl ?_
        refine wl_getI d_Mod_readLaw_32 lf_Mod_168 sh_312 rfl rfl ?_
        obtain ⟨M2, e1, h⟩ := ob1_some h
        refine wa_ast d_Mod_readLaw_35 sh_320 e1 ?_
        refine wp_aload_n d_Mod_readLaw_36 rfl rfl ?_
        obtain ⟨M3, e4, h⟩ := ob1_some h
        refine wl_callV0 d_Mod_readLaw_37 lc_Mod_reads lv_Mod_202 rfl sh_312 rfl rfl ⟨rfl, rfl⟩ ⟨by decide, by decide⟩ ?_
        refine s_Mod_reads (d := d + 5) e4 ?_
        refine wp_aload_n d_Mod_readLaw_40 rfl rfl ?_
        refine wl_getR d_Mod_readLaw_41 lf_Mod_34 sh_312 rfl ?_
        refine wp_iload_n d_Mod_readLaw_44 rfl rfl ?_
        refine wp_aload_n d_Mod_readLaw_45 rfl rfl ?_
        refine wl_getI d_Mod_readLaw_46 lf_Mod_190 sh_312 rfl rfl ?_
        obtain ⟨M6, e5, h⟩ := ob1_some h
        refine wa_ast d_Mod_readLaw_49 sh_321 e5 ?_
        obtain ⟨x7, M9, e8, h⟩ := ob2_some h
        have k13 : x7 = true → wp X (d + 8) f_Mod_readLaw (0, 0) 58 [.ref 312, .int k_, .int ((nI 32) + k_)] [] (lay M9) Q := by
          intro x14
          replace h := ip h x14
          refine wp_iconst d_Mod_readLaw_58 (v := (-1)) rfl ?_
          cases h
          exact wp_iret d_Mod_readLaw_59 rfl rfl rfl hq
        have k15 : ¬ x7 = true → wp X (d + 8) f_Mod_readLaw (0, 0) 60 [.ref 312, .int k_, .int ((nI 32) + k_)] [] (lay M9) Q := by
          intro x16
          replace h := inn h x16
          refine wp_aload_n d_Mod_readLaw_60 rfl rfl ?_
          refine wl_getR d_Mod_readLaw_61 lf_Mod_37 sh_312 rfl ?_
          refine wp_iload_n d_Mod_readLaw_64 rfl rfl ?_
          refine wp_aload_n d_Mod_readLaw_65 rfl rfl ?_
          refine wl_getI d_Mod_readLaw_66 lf_Mod_190 sh_312 rfl rfl ?_
          obtain ⟨M18, e17, h⟩ := ob1_some h
          refine wa_ast d_Mod_readLaw_69 sh_322 e17 ?_
          have k34 : ∀ (M35 : mM), (fun (M35 : mM) =>
              ob1 (wa M35 323 48 ((nI 32) + k_) (M35 312 22)) fun M38 =>
              if ¬ ((F_Mod_isSign (nI 59) M38) = true) then
              ob2 (F_Mod_errs (nI 1) M38) fun v41 M42 =>
              some (v41, M42)
              else
              ob1 (F_Mod_reads z M38) fun M39 =>
              L_Mod_readLaw_1 z kt n (k_ + (nI 1)) M39) M35 = some (r, M') → wp X (d + 8) f_Mod_readLaw (0, 0) 92 [.ref 312, .int k_, .int ((nI 32) + k_)] [] (lay M35) Q := by
            intro M35 h
            refine wp_aload_n d_Mod_readLaw_92 rfl rfl ?_
            refine wl_getR d_Mod_readLaw_93 lf_Mod_40 sh_312 rfl ?_
            refine wp_iload_n d_Mod_readLaw_96 rfl rfl ?_
            refine wp_aload_n d_Mod_readLaw_97 rfl rfl ?_
            refine wl_getI d_Mod_readLaw_98 lf_Mod_190 sh_312 rfl rfl ?_
            obtain ⟨M38, e37, h⟩ := ob1_some h
            refine wa_ast d_Mod_readLaw_101 sh_323 e37 ?_
            refine wp_aload_n d_Mod_readLaw_102 rfl rfl ?_
            refine wp_bipush d_Mod_readLaw_103 (v := nI 59) rfl ?_
            refine wl_callV1 d_Mod_readLaw_105 lc_Mod_isSign lv_Mod_209 rfl sh_312 rfl rfl ⟨rfl, rfl⟩ ⟨by decide, by decide⟩ ?_
            refine s_Mod_isSign (d := d + 7) rfl ?_
            refine wc_ne 117 d_Mod_readLaw_108 rfl (fun h108 => ?_) (fun h108 => ?_)
            · replace h := inn h (fun z => z h108)
              refine wp_aload_n d_Mod_readLaw_117 rfl rfl ?_
              obtain ⟨M39, e40, h⟩ := ob1_some h
              refine wl_callV0 d_Mod_readLaw_118 lc_Mod_reads lv_Mod_202 rfl sh_312 rfl rfl ⟨rfl, rfl⟩ ⟨by decide, by decide⟩ ?_
              refine s_Mod_reads (d := d + 5) e40 ?_
              refine wp_iload_n d_Mod_readLaw_121 rfl rfl ?_
              refine wp_iconst d_Mod_readLaw_122 (v := nI 1) rfl ?_
              refine wp_iadd d_Mod_readLaw_123 ?_
              refine wp_istore_n d_Mod_readLaw_124 rfl (by decide) ?_
              refine wp_goto 2 d_Mod_readLaw_125 rfl ?_
              exact ih _ _ _ h
            · replace h := ip h h108
              refine wp_aload_n d_Mod_readLaw_111 rfl rfl ?_
              refine wp_iconst d_Mod_readLaw_112 (v := nI 1) rfl ?_
              obtain ⟨v41, M42, e43, h⟩ := ob2_some h
              refine wl_callV1 d_Mod_readLaw_113 lc_Mod_errs lv_Mod_196 rfl sh_312 rfl rfl ⟨rfl, rfl⟩ ⟨by decide, by decide⟩ ?_
              refine s_Mod_errs (d := d + 7) e43 ?_
              cases h
              exact wp_iret d_Mod_readLaw_116 rfl rfl rfl hq
          refine wp_aload_n d_Mod_readLaw_70 rfl rfl ?_
          refine wp_iconst d_Mod_readLaw_71 (v := nI 3) rfl ?_
          refine wl_callV1 d_Mod_readLaw_72 lc_Mod_isWord lv_Mod_224 rfl sh_312 rfl rfl ⟨rfl, rfl⟩ ⟨by decide, by decide⟩ ?_
          refine s_Mod_isWord (d := d + 7) rfl ?_
          refine wc_eq 92 d_Mod_readLaw_75 rfl (fun h75 => ?_) (fun h75 => ?_)
          · replace h := inn h h75
            exact k34 _ h
          · replace h := ip h h75
            refine wp_aload_n d_Mod_readLaw_78 rfl rfl ?_
            obtain ⟨M44, e45, h⟩ := ob1_some h
            refine wl_callV0 d_Mod_readLaw_79 lc_Mod_reads lv_Mod_202 rfl sh_312 rfl rfl ⟨rfl, rfl⟩ ⟨by decide, by decide⟩ ?_
            refine s_Mod_reads (d := d + 5) e45 ?_
            obtain ⟨x46, M48, e47, h⟩ := ob2_some h
            have k52 : x46 = true → wp X (d + 8) f_Mod_readLaw (0, 0) 90 [.ref 312, .int k_, .int ((nI 32) + k_)] [] (lay M48) Q := by
              intro x53
              replace h := ip h x53
              refine wp_iconst d_Mod_readLaw_90 (v := (-1)) rfl ?_
              cases h
              exact wp_iret d_Mod_readLaw_91 rfl rfl rfl hq
            have k54 : ¬ x46 = true → wp X (d + 8) f_Mod_readLaw (0, 0) 92 [.ref 312, .int k_, .int ((nI 32) + k_)] [] (lay M48) Q := by
              intro x55
              replace h := inn h x55
              exact k34 _ h
            refine wp_aload_n d_Mod_readLaw_82 rfl rfl ?_
            obtain ⟨v56, M57, e58, e47⟩ := ob2_some e47
            refine wl_callV0 d_Mod_readLaw_83 lc_Mod_readAny lv_Mod_240 rfl sh_312 rfl rfl ⟨rfl, rfl⟩ ⟨by decide, by decide⟩ ?_
            refine s_Mod_readAny (d := d) e58 ?_
            refine wp_iconst d_Mod_readLaw_86 (v := (-1)) rfl ?_
            refine wq_icmp_ne 92 d_Mod_readLaw_87 rfl (fun h87 => ?_) (fun h87 => ?_)
            · cases e47
              exact k54 (fun z => h87 (of_decide_eq_true z))
            · cases e47
              exact k52 (decide_eq_true h87)
        refine wp_aload_n d_Mod_readLaw_50 rfl rfl ?_
        obtain ⟨v59, M60, e61, e8⟩ := ob2_some e8
        refine wl_callV0 d_Mod_readLaw_51 lc_Mod_readSum lv_Mod_215 rfl sh_312 rfl rfl ⟨rfl, rfl⟩ ⟨by decide, by decide⟩ ?_
        refine s_Mod_readSum (d := d + 2) e61 ?_
        refine wp_iconst d_Mod_readLaw_54 (v := (-1)) rfl ?_
        refine wq_icmp_ne 60 d_Mod_readLaw_55 rfl (fun h55 => ?_) (fun h55 => ?_)
        · cases e8
          exact k15 (fun z => h55 (of_decide_eq_true z))
        · cases e8
          exact k13 (decide_eq_true h55)
      · replace h := ip h h12
        refine wp_aload_n d_Mod_readLaw_15 rfl rfl ?_
        refine wp_iconst d_Mod_readLaw_16 (v := nI 3) rfl ?_
        obtain ⟨v62, M63, e64, h⟩ := ob2_some h
        refine wl_callV1 d_Mod_readLaw_17 lc_Mod_errs lv_Mod_196 rfl sh_312 rfl rfl ⟨rfl, rfl⟩ ⟨by decide, by decide⟩ ?_
        refine s_Mod_errs (d := d + 7) e64 ?_
        cases h
        exact wp_iret d_Mod_readLaw_20 rfl rfl rfl hq
theorem s_Mod_readLaw {M : mM} {r : Int32} {M' : mM} (h : F_Mod_readLaw z M = some (r, M')) (hq : Q (some (.int r)) (lay M')) : Sp X (d + 8) f_Mod_readLaw [.ref 312] (lay M) Q := by
  refine Sp_of (by decide) rfl (Nat.le_of_ble_eq_true rfl) ?_
  refine wp_iconst d_Mod_readLaw_0 (v := nI 0) rfl ?_
  refine wp_istore_n d_Mod_readLaw_1 rfl (by decide) ?_
  refine l_Mod_readLaw_1 hq ?_ _ _ _ _ h
  intro k_65 M66 u2 h
  obtain ⟨v71, M73, e72, h⟩ := ob2_some h
  have k70 : ∀ u2 : Value, wp X (d + 8) f_Mod_readLaw (0, 0) 144 [.ref 312, .int k_65, u2] [.int v71] (lay M73) Q := by
    intro u2
    cases h
    exact wp_iret d_Mod_readLaw_144 rfl rfl rfl hq
  refine wp_aload_n d_Mod_readLaw_128 rfl rfl ?_
  refine wl_getI d_Mod_readLaw_129 lf_Mod_165 sh_312 rfl rfl ?_
  refine wz_ne 139 d_Mod_readLaw_132 rfl (fun h132 => ?_) (fun h132 => ?_)
  · replace e72 := inn e72 h132
    refine wp_aload_n d_Mod_readLaw_139 rfl rfl ?_
    refine wp_iconst d_Mod_readLaw_140 (v := nI 1) rfl ?_
    obtain ⟨v74, M75, e76, e72⟩ := ob2_some e72
    refine wl_callV1 d_Mod_readLaw_141 lc_Mod_errs lv_Mod_196 rfl sh_312 rfl rfl ⟨rfl, rfl⟩ ⟨by decide, by decide⟩ ?_
    refine s_Mod_errs (d := d + 7) e76 ?_
    cases e72
    exact k70 _
  · replace e72 := ip e72 h132
    refine wp_iload_n d_Mod_readLaw_135 rfl rfl ?_
    cases e72
    refine wp_goto 144 d_Mod_readLaw_136 rfl ?_
    exact k70 _
def L_Mod_takesLaw_1 (z : Nat) (lines_ : Int32) : Nat → Int32 → mM → Option (mM)
  | 0, _, _ => none
  | n + 1, l_, M =>
    if l_ < lines_ then
    ob1 (ra M 320 48 ((nI 32) + l_)) fun v2 =>
    ob1 (wa M 320 48 (((nI 16) * (nI 0)) + l_) v2) fun M4 =>
    ob1 (ra M4 321 48 ((nI 32) + l_)) fun v6 =>
    ob1 (wa M4 321 48 (((nI 16) * (nI 0)) + l_) v6) fun M8 =>
    ob1 (ra M8 322 48 ((nI 32) + l_)) fun v10 =>
    ob1 (wa M8 322 48 (((nI 16) * (nI 0)) + l_) v10) fun M12 =>
    ob1 (ra M12 323 48 ((nI 32) + l_)) fun v14 =>
    ob1 (wa M12 323 48 (((nI 16) * (nI 0)) + l_) v14) fun M16 =>
    L_Mod_takesLaw_1 z lines_ n (l_ + nI 1) M16
    else
    some (M)
def L_Mod_takesLaw_2 (z : Nat) : Nat → Int32 → mM → Option (mM)
  | 0, _, _ => none
  | n + 1, i_, M =>
    if i_ < (M 312 22) then
    ob1 (ra M 324 1200 ((nI 800) + i_)) fun v19 =>
    ob1 (wa M 324 1200 (((nI 400) * (nI 0)) + i_) v19) fun M21 =>
    ob1 (ra M21 325 1200 ((nI 800) + i_)) fun v23 =>
    ob1 (wa M21 325 1200 (((nI 400) * (nI 0)) + i_) v23) fun M25 =>
    L_Mod_takesLaw_2 z n (i_ + nI 1) M25
    else
    some (M)
def F_Mod_takesLaw (z : Nat) (lines_ : Int32) (M : mM) : Option mM :=
  ob1 (L_Mod_takesLaw_1 z lines_ z (nI 0) M) fun M17 =>
  ob1 (L_Mod_takesLaw_2 z z (nI 0) M17) fun M26 =>
  ob1 (wa M26 319 2 (nI 0) lines_) fun M28 =>
  some M28
theorem l_Mod_takesLaw_1 {lines_ : Int32}  {N' : mM} (K : ∀ u2 : Value, wp X d f_Mod_takesLaw (0, 0) 105 [.ref 312, .int lines_, u2] [] (lay N') Q) : ∀ (n : Nat) (l_ : Int32) (M : mM), L_Mod_takesLaw_1 z lines_ n l_ M = some (N') → wp X d f_Mod_takesLaw (0, 0) 2 [.ref 312, .int lines_, .int l_] [] (lay M) Q := by
  intro n
  induction n with
  | zero => intro l_ M h; exact nn h
  | succ n ih =>
    intro l_ M h
    refine wp_iload_n d_Mod_takesLaw_2 rfl rfl ?_
    refine wp_iload_n d_Mod_takesLaw_3 rfl rfl ?_
    refine wq_icmp_ge 105 d_Mod_takesLaw_4 rfl (fun h4 => ?_) (fun h4 => ?_)
    · replace h := inn h h4
      cases h
      exact K _
    · replace h := ip h h4
      refine wp_aload_n d_Mod_takesLaw_7 rfl rfl ?_
      refine wl_getR d_Mod_takesLaw_8 lf_Mod_31 sh_312 rfl ?_
      refine wp_bipush d_Mod_takesLaw_11 (v := nI 16) rfl ?_
      refine wp_aload_n d_Mod_takesLaw_13 rfl rfl ?_
      refine wl_getR d_Mod_takesLaw_14 lf_Mod_243 sh_312 rfl ?_
      refine wp_imul d_Mod_takesLaw_17 ?_
      refine wp_iload_n d_Mod_takesLaw_18 rfl rfl ?_
      refine wp_iadd d_Mod_takesLaw_19 ?_
      refine wp_aload_n d_Mod_takesLaw_20 rfl rfl ?_
      refine wl_getR d_Mod_takesLaw_21 lf_Mod_31 sh_312 rfl ?_
      refine wp_bipush d_Mod_takesLaw_24 (v := nI 32) rfl ?_
      refine wp_iload_n d_Mod_takesLaw_26 rfl rfl ?_
      refine wp_iadd d_Mod_takesLaw_27 ?_
      obtain ⟨v2, e1, h⟩ := ob1_some h
      refine wa_ald d_Mod_takesLaw_28 sh_320 e1 ?_
      obtain ⟨M4, e3, h⟩ := ob1_some h
      refine wa_ast d_Mod_takesLaw_29 sh_320 e3 ?_
      refine wp_aload_n d_Mod_takesLaw_30 rfl rfl ?_
      refine wl_getR d_Mod_takesLaw_31 lf_Mod_34 sh_312 rfl ?_
      refine wp_bipush d_Mod_takesLaw_34 (v := nI 16) rfl ?_
      refine wp_aload_n d_Mod_takesLaw_36 rfl rfl ?_
      refine wl_getR d_Mod_takesLaw_37 lf_Mod_243 sh_312 rfl ?_
      refine wp_imul d_Mod_takesLaw_40 ?_
      refine wp_iload_n d_Mod_takesLaw_41 rfl rfl ?_
      refine wp_iadd d_Mod_takesLaw_42 ?_
      refine wp_aload_n d_Mod_takesLaw_43 rfl rfl ?_
      refine wl_getR d_Mod_takesLaw_44 lf_Mod_34 sh_312 rfl ?_
      refine wp_bipush d_Mod_takesLaw_47 (v := nI 32) rfl ?_
      refine wp_iload_n d_Mod_takesLaw_49 rfl rfl ?_
      refine wp_iadd d_Mod_takesLaw_50 ?_
      obtain ⟨v6, e5, h⟩ := ob1_some h
      refine wa_ald d_Mod_takesLaw_51 sh_321 e5 ?_
      obtain ⟨M8, e7, h⟩ := ob1_some h
      refine wa_ast d_Mod_takesLaw_52 sh_321 e7 ?_
      refine wp_aload_n d_Mod_takesLaw_53 rfl rfl ?_
      refine wl_getR d_Mod_takesLaw_54 lf_Mod_37 sh_312 rfl ?_
      refine wp_bipush d_Mod_takesLaw_57 (v := nI 16) rfl ?_
      refine wp_aload_n d_Mod_takesLaw_59 rfl rfl ?_
      refine wl_getR d_Mod_takesLaw_60 lf_Mod_243 sh_312 rfl ?_
      refine wp_imul d_Mod_takesLaw_63 ?_
      refine wp_iload_n d_Mod_takesLaw_64 rfl rfl ?_
      refine wp_iadd d_Mod_takesLaw_65 ?_
      refine wp_aload_n d_Mod_takesLaw_66 rfl rfl ?_
      refine wl_getR d_Mod_takesLaw_67 lf_Mod_37 sh_312 rfl ?_
      refine wp_bipush d_Mod_takesLaw_70 (v := nI 32) rfl ?_
      refine wp_iload_n d_Mod_takesLaw_72 rfl rfl ?_
      refine wp_iadd d_Mod_takesLaw_73 ?_
      obtain ⟨v10, e9, h⟩ := ob1_some h
      refine wa_ald d_Mod_takesLaw_74 sh_322 e9 ?_
      obtain ⟨M12, e11, h⟩ := ob1_some h
      refine wa_ast d_Mod_takesLaw_75 sh_322 e11 ?_
      refine wp_aload_n d_Mod_takesLaw_76 rfl rfl ?_
      refine wl_getR d_Mod_takesLaw_77 lf_Mod_40 sh_312 rfl ?_
      refine wp_bipush d_Mod_takesLaw_80 (v := nI 16) rfl ?_
      refine wp_aload_n d_Mod_takesLaw_82 rfl rfl ?_
      refine wl_getR d_Mod_takesLaw_83 lf_Mod_243 sh_312 rfl ?_
      refine wp_imul d_Mod_takesLaw_86 ?_
      refine wp_iload_n d_Mod_takesLaw_87 rfl rfl ?_
      refine wp_iadd d_Mod_takesLaw_88 ?_
      refine wp_aload_n d_Mod_takesLaw_89 rfl rfl ?_
      refine wl_getR d_Mod_takesLaw_90 lf_Mod_40 sh_312 rfl ?_
      refine wp_bipush d_Mod_takesLaw_93 (v := nI 32) rfl ?_
      refine wp_iload_n d_Mod_takesLaw_95 rfl rfl ?_
      refine wp_iadd d_Mod_takesLaw_96 ?_
      obtain ⟨v14, e13, h⟩ := ob1_some h
      refine wa_ald d_Mod_takesLaw_97 sh_323 e13 ?_
      obtain ⟨M16, e15, h⟩ := ob1_some h
      refine wa_ast d_Mod_takesLaw_98 sh_323 e15 ?_
      refine wp_iinc d_Mod_takesLaw_99 (v := l_ + nI 1) rfl rfl ?_
      refine wp_goto 2 d_Mod_takesLaw_102 rfl ?_
      exact ih _ _ h
theorem l_Mod_takesLaw_2  {q1 : Value} {N' : mM} (K : ∀ u2 : Value, wp X d f_Mod_takesLaw (0, 0) 171 [.ref 312, q1, u2] [] (lay N') Q) : ∀ (n : Nat) (i_ : Int32) (M : mM), L_Mod_takesLaw_2 z n i_ M = some (N') → wp X d f_Mod_takesLaw (0, 0) 107 [.ref 312, q1, .int i_] [] (lay M) Q := by
  intro n
  induction n with
  | zero => intro i_ M h; exact nn h
  | succ n ih =>
    intro i_ M h
    refine wp_iload_n d_Mod_takesLaw_107 rfl rfl ?_
    refine wp_aload_n d_Mod_takesLaw_108 rfl rfl ?_
    refine wl_getI d_Mod_takesLaw_109 lf_Mod_190 sh_312 rfl rfl ?_
    refine wq_icmp_ge 171 d_Mod_takesLaw_112 rfl (fun h112 => ?_) (fun h112 => ?_)
    · replace h := inn h h112
      cases h
      exact K _
    · replace h := ip h h112
      refine wp_aload_n d_Mod_takesLaw_115 rfl rfl ?_
      refine wl_getR d_Mod_takesLaw_116 lf_Mod_43 sh_312 rfl ?_
      refine wp_sipush d_Mod_takesLaw_119 (v := nI 400) rfl ?_
      refine wp_aload_n d_Mod_takesLaw_122 rfl rfl ?_
      refine wl_getR d_Mod_takesLaw_123 lf_Mod_243 sh_312 rfl ?_
      refine wp_imul d_Mod_takesLaw_126 ?_
      refine wp_iload_n d_Mod_takesLaw_127 rfl rfl ?_
      refine wp_iadd d_Mod_takesLaw_128 ?_
      refine wp_aload_n d_Mod_takesLaw_129 rfl rfl ?_
      refine wl_getR d_Mod_takesLaw_130 lf_Mod_43 sh_312 rfl ?_
      refine wp_sipush d_Mod_takesLaw_133 (v := nI 800) rfl ?_
      refine wp_iload_n d_Mod_takesLaw_136 rfl rfl ?_
      refine wp_iadd d_Mod_takesLaw_137 ?_
      obtain ⟨v19, e18, h⟩ := ob1_some h
      refine wa_ald d_Mod_takesLaw_138 sh_324 e18 ?_
      obtain ⟨M21, e20, h⟩ := ob1_some h
      refine wa_ast d_Mod_takesLaw_139 sh_324 e20 ?_
      refine wp_aload_n d_Mod_takesLaw_140 rfl rfl ?_
      refine wl_getR d_Mod_takesLaw_141 lf_Mod_46 sh_312 rfl ?_
      refine wp_sipush d_Mod_takesLaw_144 (v := nI 400) rfl ?_
      refine wp_aload_n d_Mod_takesLaw_147 rfl rfl ?_
      refine wl_getR d_Mod_takesLaw_148 lf_Mod_243 sh_312 rfl ?_
      refine wp_imul d_Mod_takesLaw_151 ?_
      refine wp_iload_n d_Mod_takesLaw_152 rfl rfl ?_
      refine wp_iadd d_Mod_takesLaw_153 ?_
      refine wp_aload_n d_Mod_takesLaw_154 rfl rfl ?_
      refine wl_getR d_Mod_takesLaw_155 lf_Mod_46 sh_312 rfl ?_
      refine wp_sipush d_Mod_takesLaw_158 (v := nI 800) rfl ?_
      refine wp_iload_n d_Mod_takesLaw_161 rfl rfl ?_
      refine wp_iadd d_Mod_takesLaw_162 ?_
      obtain ⟨v23, e22, h⟩ := ob1_some h
      refine wa_ald d_Mod_takesLaw_163 sh_325 e22 ?_
      obtain ⟨M25, e24, h⟩ := ob1_some h
      refine wa_ast d_Mod_takesLaw_164 sh_325 e24 ?_
      refine wp_iinc d_Mod_takesLaw_165 (v := i_ + nI 1) rfl rfl ?_
      refine wp_goto 107 d_Mod_takesLaw_168 rfl ?_
      exact ih _ _ h
theorem s_Mod_takesLaw {lines_ : Int32} {M : mM} {M' : mM} (h : F_Mod_takesLaw z lines_ M = some M') (hq : Q none (lay M')) : Sp X d f_Mod_takesLaw [.ref 312, .int lines_] (lay M) Q := by
  refine Sp_of (by decide) rfl (Nat.le_of_ble_eq_true rfl) ?_
  refine wp_iconst d_Mod_takesLaw_0 (v := nI 0) rfl ?_
  refine wp_istore_n d_Mod_takesLaw_1 rfl (by decide) ?_
  obtain ⟨M17, e30, h⟩ := ob1_some h
  refine l_Mod_takesLaw_1 ?_ _ _ _ e30
  intro u2
  refine wp_iconst d_Mod_takesLaw_105 (v := nI 0) rfl ?_
  refine wp_istore_n d_Mod_takesLaw_106 rfl (by decide) ?_
  obtain ⟨M26, e29, h⟩ := ob1_some h
  refine l_Mod_takesLaw_2 ?_ _ _ _ e29
  intro u2
  refine wp_aload_n d_Mod_takesLaw_171 rfl rfl ?_
  refine wl_getR d_Mod_takesLaw_172 lf_Mod_28 sh_312 rfl ?_
  refine wp_aload_n d_Mod_takesLaw_175 rfl rfl ?_
  refine wl_getR d_Mod_takesLaw_176 lf_Mod_243 sh_312 rfl ?_
  refine wp_iload_n d_Mod_takesLaw_179 rfl rfl ?_
  obtain ⟨M28, e27, h⟩ := ob1_some h
  refine wa_ast d_Mod_takesLaw_180 sh_319 e27 ?_
  cases h
  exact wp_ret d_Mod_takesLaw_181 rfl rfl hq
def F_Mod_readNumber (z : Nat) (low_ : Int32) (high_ : Int32) (M : mM) : Option (Int32 × mM) :=
  if ¬ ((M 312 11) = (nI 3)) then
  ob2 (F_Mod_errs (nI 1) M) fun v6 M7 =>
  some (v6, M7)
  else
  if ¬ ((F_Mod_isIn (M 312 12) low_ high_) = true) then
  ob2 (F_Mod_errs (nI 2) M) fun v3 M4 =>
  some (v3, M4)
  else
  ob1 (F_Mod_reads z M) fun M1 =>
  some (M 312 12, M1)
theorem s_Mod_readNumber {low_ : Int32} {high_ : Int32} {M : mM} {r : Int32} {M' : mM} (h : F_Mod_readNumber z low_ high_ M = some (r, M')) (hq : Q (some (.int r)) (lay M')) : Sp X (d + 3) f_Mod_readNumber [.ref 312, .int low_, .int high_] (lay M) Q := by
  refine Sp_of (by decide) rfl (Nat.le_of_ble_eq_true rfl) ?_
  refine wp_aload_n d_Mod_readNumber_0 rfl rfl ?_
  refine wl_getI d_Mod_readNumber_1 lf_Mod_165 sh_312 rfl rfl ?_
  refine wp_iconst d_Mod_readNumber_4 (v := nI 3) rfl ?_
  refine wq_icmp_eq 14 d_Mod_readNumber_5 rfl (fun h5 => ?_) (fun h5 => ?_)
  · replace h := inn h (fun z => z h5)
    refine wp_aload_n d_Mod_readNumber_14 rfl rfl ?_
    refine wp_aload_n d_Mod_readNumber_15 rfl rfl ?_
    refine wl_getI d_Mod_readNumber_16 lf_Mod_168 sh_312 rfl rfl ?_
    refine wp_iload_n d_Mod_readNumber_19 rfl rfl ?_
    refine wp_iload_n d_Mod_readNumber_20 rfl rfl ?_
    refine wl_callV3 d_Mod_readNumber_21 lc_Mod_isIn lv_Mod_135 rfl sh_312 rfl rfl ⟨rfl, rfl⟩ ⟨by decide, by decide⟩ ?_
    refine s_Mod_isIn (d := d + 2) rfl ?_
    refine wc_ne 33 d_Mod_readNumber_24 rfl (fun h24 => ?_) (fun h24 => ?_)
    · replace h := inn h (fun z => z h24)
      refine wp_aload_n d_Mod_readNumber_33 rfl rfl ?_
      refine wl_getI d_Mod_readNumber_34 lf_Mod_168 sh_312 rfl rfl ?_
      refine wp_istore_n d_Mod_readNumber_37 rfl (by decide) ?_
      refine wp_aload_n d_Mod_readNumber_38 rfl rfl ?_
      obtain ⟨M1, e2, h⟩ := ob1_some h
      refine wl_callV0 d_Mod_readNumber_39 lc_Mod_reads lv_Mod_202 rfl sh_312 rfl rfl ⟨rfl, rfl⟩ ⟨by decide, by decide⟩ ?_
      refine s_Mod_reads (d := d) e2 ?_
      refine wp_iload_n d_Mod_readNumber_42 rfl rfl ?_
      cases h
      exact wp_iret d_Mod_readNumber_43 rfl rfl rfl hq
    · replace h := ip h h24
      refine wp_aload_n d_Mod_readNumber_27 rfl rfl ?_
      refine wp_iconst d_Mod_readNumber_28 (v := nI 2) rfl ?_
      obtain ⟨v3, M4, e5, h⟩ := ob2_some h
      refine wl_callV1 d_Mod_readNumber_29 lc_Mod_errs lv_Mod_196 rfl sh_312 rfl rfl ⟨rfl, rfl⟩ ⟨by decide, by decide⟩ ?_
      refine s_Mod_errs (d := d + 2) e5 ?_
      cases h
      exact wp_iret d_Mod_readNumber_32 rfl rfl rfl hq
  · replace h := ip h h5
    refine wp_aload_n d_Mod_readNumber_8 rfl rfl ?_
    refine wp_iconst d_Mod_readNumber_9 (v := nI 1) rfl ?_
    obtain ⟨v6, M7, e8, h⟩ := ob2_some h
    refine wl_callV1 d_Mod_readNumber_10 lc_Mod_errs lv_Mod_196 rfl sh_312 rfl rfl ⟨rfl, rfl⟩ ⟨by decide, by decide⟩ ?_
    refine s_Mod_errs (d := d + 2) e8 ?_
    cases h
    exact wp_iret d_Mod_readNumber_13 rfl rfl rfl hq
end S1413
