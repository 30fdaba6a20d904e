/-! methods as functions: printed by program -/
section S1412
variable {X : mXs} {d z : Nat} {Q : Option Value → mH → Prop}
def L_Mod_types_1 (z : Nat) (v_ : Int32) : Nat → Int32 → mM → Option (mM)
  | 0, _, _ => none
  | n + 1, z_, M =>
    if ¬ (z_ < (nI 0)) then
    ob1 (wa M 317 400 (M 312 8) ((jshr v_ z_) &&& (nI 255))) fun M2 =>
    ob1 (some (up M2 312 8 ((M2 312 8) + (nI 1)))) fun M3 =>
    L_Mod_types_1 z v_ n (z_ + (-8)) M3
    else
    some (M)
def F_Mod_types (z : Nat) (v_ : Int32) (M : mM) : Option mM :=
  ob1 (L_Mod_types_1 z v_ z (nI 24) M) fun M5 =>
  some M5
theorem l_Mod_types_1 {v_ : Int32}  {N' : mM} (K : ∀ u2 : Value, wp X d f_Mod_types (0, 0) 39 [.ref 312, .int v_, u2] [] (lay N') Q) : ∀ (n : Nat) (z_ : Int32) (M : mM), L_Mod_types_1 z v_ n z_ M = some (N') → wp X d f_Mod_types (0, 0) 3 [.ref 312, .int v_, .int z_] [] (lay M) Q := by
  intro n
  induction n with
  | zero => intro z_ M h; exact nn h
  | succ n ih =>
    intro z_ M h
    refine wp_iload_n d_Mod_types_3 rfl rfl ?_
    refine wz_lt 39 d_Mod_types_4 rfl (fun h4 => ?_) (fun h4 => ?_)
    · replace h := inn h (fun z => z h4)
      cases h
      exact K _
    · replace h := ip h h4
      refine wp_aload_n d_Mod_types_7 rfl rfl ?_
      refine wl_getR d_Mod_types_8 lf_Mod_22 sh_312 rfl ?_
      refine wp_aload_n d_Mod_types_11 rfl rfl ?_
      refine wl_getI d_Mod_types_12 lf_Mod_149 sh_312 rfl rfl ?_
      refine wp_iload_n d_Mod_types_15 rfl rfl ?_
      refine wp_iload_n d_Mod_types_16 rfl rfl ?_
      refine wp_ishr d_Mod_types_17 ?_
      refine wp_sipush d_Mod_types_18 (v := nI 255) rfl ?_
      refine wp_iand d_Mod_types_21 ?_
      obtain ⟨M2, e1, h⟩ := ob1_some h
      refine wa_ast d_Mod_types_22 sh_317 e1 ?_
      refine wp_aload_n d_Mod_types_23 rfl rfl ?_
      refine wp_aload_n d_Mod_types_24 rfl rfl ?_
      refine wl_getI d_Mod_types_25 lf_Mod_149 sh_312 rfl rfl ?_
      refine wp_iconst d_Mod_types_28 (v := nI 1) rfl ?_
      refine wp_iadd d_Mod_types_29 ?_
      refine wl_put d_Mod_types_30 lp_Mod_149 sh_312 rfl ⟨rfl, rfl⟩ ?_
      obtain ⟨M3, e4, h⟩ := ob1_some h
      refine wx_M e4 ?_
      refine wp_iinc d_Mod_types_33 (v := z_ + (-8)) rfl rfl ?_
      refine wp_goto 3 d_Mod_types_36 rfl ?_
      exact ih _ _ h
theorem s_Mod_types {v_ : Int32} {M : mM} {M' : mM} (h : F_Mod_types z v_ M = some M') (hq : Q none (lay M')) : Sp X d f_Mod_types [.ref 312, .int v_] (lay M) Q := by
  refine Sp_of (by decide) rfl (Nat.le_of_ble_eq_true rfl) ?_
  refine wp_bipush d_Mod_types_0 (v := nI 24) rfl ?_
  refine wp_istore_n d_Mod_types_2 rfl (by decide) ?_
  obtain ⟨M5, e6, h⟩ := ob1_some h
  refine l_Mod_types_1 ?_ _ _ _ e6
  intro u2
  cases h
  exact wp_ret d_Mod_types_39 rfl rfl hq
def F_Mod_feed (z : Nat) (a_ : Int32) (b_ : Int32) (c_ : Int32) (d_ : Int32) (e_ : Int32) (M : mM) : Option (Int32 × mM) :=
  if (nI 380) < (M 312 8) then
  some ((-1), M)
  else
  ob1 (F_Mod_types z a_ M) fun M1 =>
  ob1 (F_Mod_types z b_ M1) fun M3 =>
  ob1 (F_Mod_types z c_ M3) fun M5 =>
  ob1 (F_Mod_types z d_ M5) fun M7 =>
  ob1 (F_Mod_types z e_ M7) fun M9 =>
  some (M9 312 8, M9)
theorem s_Mod_feed {a_ : Int32} {b_ : Int32} {c_ : Int32} {d_ : Int32} {e_ : Int32} {M : mM} {r : Int32} {M' : mM} (h : F_Mod_feed z a_ b_ c_ d_ e_ M = some (r, M')) (hq : Q (some (.int r)) (lay M')) : Sp X (d + 1) f_Mod_feed [.ref 312, .int a_, .int b_, .int c_, .int d_, .int e_] (lay M) Q := by
  refine Sp_of (by decide) rfl (Nat.le_of_ble_eq_true rfl) ?_
  refine wp_aload_n d_Mod_feed_0 rfl rfl ?_
  refine wp_iconst d_Mod_feed_1 (v := nI 0) rfl ?_
  refine wl_putC d_Mod_feed_2 lp_Mod_107 sh_312 rfl ⟨rfl, rfl⟩ ?_
  refine wp_aload_n d_Mod_feed_5 rfl rfl ?_
  refine wl_getI d_Mod_feed_6 lf_Mod_149 sh_312 rfl rfl ?_
  refine wp_sipush d_Mod_feed_9 (v := nI 380) rfl ?_
  refine wq_icmp_le 17 d_Mod_feed_12 rfl (fun h12 => ?_) (fun h12 => ?_)
  · replace h := inn h h12
    refine wp_aload_n d_Mod_feed_17 rfl rfl ?_
    refine wp_iload_n d_Mod_feed_18 rfl rfl ?_
    obtain ⟨M1, e2, h⟩ := ob1_some h
    refine wl_callV1 d_Mod_feed_19 lc_Mod_types lv_Mod_152 rfl sh_312 rfl rfl ⟨rfl, rfl⟩ ⟨by decide, by decide⟩ ?_
    refine s_Mod_types (d := d) e2 ?_
    refine wp_aload_n d_Mod_feed_22 rfl rfl ?_
    refine wp_iload_n d_Mod_feed_23 rfl rfl ?_
    obtain ⟨M3, e4, h⟩ := ob1_some h
    refine wl_callV1 d_Mod_feed_24 lc_Mod_types lv_Mod_152 rfl sh_312 rfl rfl ⟨rfl, rfl⟩ ⟨by decide, by decide⟩ ?_
    refine s_Mod_types (d := d) e4 ?_
    refine wp_aload_n d_Mod_feed_27 rfl rfl ?_
    refine wp_iload_n d_Mod_feed_28 rfl rfl ?_
    obtain ⟨M5, e6, h⟩ := ob1_some h
    refine wl_callV1 d_Mod_feed_29 lc_Mod_types lv_Mod_152 rfl sh_312 rfl rfl ⟨rfl, rfl⟩ ⟨by decide, by decide⟩ ?_
    refine s_Mod_types (d := d) e6 ?_
    refine wp_aload_n d_Mod_feed_32 rfl rfl ?_
    refine wp_iload d_Mod_feed_33 rfl ?_
    obtain ⟨M7, e8, h⟩ := ob1_some h
    refine wl_callV1 d_Mod_feed_35 lc_Mod_types lv_Mod_152 rfl sh_312 rfl rfl ⟨rfl, rfl⟩ ⟨by decide, by decide⟩ ?_
    refine s_Mod_types (d := d) e8 ?_
    refine wp_aload_n d_Mod_feed_38 rfl rfl ?_
    refine wp_iload d_Mod_feed_39 rfl ?_
    obtain ⟨M9, e10, h⟩ := ob1_some h
    refine wl_callV1 d_Mod_feed_41 lc_Mod_types lv_Mod_152 rfl sh_312 rfl rfl ⟨rfl, rfl⟩ ⟨by decide, by decide⟩ ?_
    refine s_Mod_types (d := d) e10 ?_
    refine wp_aload_n d_Mod_feed_44 rfl rfl ?_
    refine wl_getI d_Mod_feed_45 lf_Mod_149 sh_312 rfl rfl ?_
    cases h
    exact wp_iret d_Mod_feed_48 rfl rfl rfl hq
  · replace h := ip h h12
    refine wp_iconst d_Mod_feed_15 (v := (-1)) rfl ?_
    cases h
    exact wp_iret d_Mod_feed_16 rfl rfl rfl hq
def F_Mod_end (k_ : Int32) (M : mM) : Option (Bool × mM) :=
  if ¬ ((F_Mod_isIn k_ (nI 0) (M 312 8)) = true) then
  some (false, M)
  else
  ob1 (some (up M 312 8 k_)) fun M1 =>
  some (true, M1)
theorem s_Mod_end {k_ : Int32} {M : mM} {r : Bool} {M' : mM} (h : F_Mod_end k_ M = some (r, M')) (hq : Q (some (.int (bI r))) (lay M')) : Sp X (d + 1) f_Mod_end [.ref 312, .int k_] (lay M) Q := by
  refine Sp_of (by decide) rfl (Nat.le_of_ble_eq_true rfl) ?_
  refine wp_aload_n d_Mod_end_0 rfl rfl ?_
  refine wp_iconst d_Mod_end_1 (v := nI 0) rfl ?_
  refine wl_putC d_Mod_end_2 lp_Mod_107 sh_312 rfl ⟨rfl, rfl⟩ ?_
  refine wp_aload_n d_Mod_end_5 rfl rfl ?_
  refine wp_iload_n d_Mod_end_6 rfl rfl ?_
  refine wp_iconst d_Mod_end_7 (v := nI 0) rfl ?_
  refine wp_aload_n d_Mod_end_8 rfl rfl ?_
  refine wl_getI d_Mod_end_9 lf_Mod_149 sh_312 rfl rfl ?_
  refine wl_callV3 d_Mod_end_12 lc_Mod_isIn lv_Mod_135 rfl sh_312 rfl rfl ⟨rfl, rfl⟩ ⟨by decide, by decide⟩ ?_
  refine s_Mod_isIn (d := d) rfl ?_
  refine wc_ne 20 d_Mod_end_15 rfl (fun h15 => ?_) (fun h15 => ?_)
  · replace h := inn h (fun z => z h15)
    refine wp_aload_n d_Mod_end_20 rfl rfl ?_
    refine wp_iload_n d_Mod_end_21 rfl rfl ?_
    refine wl_put d_Mod_end_22 lp_Mod_149 sh_312 rfl ⟨rfl, rfl⟩ ?_
    obtain ⟨M1, e2, h⟩ := ob1_some h
    refine wx_M e2 ?_
    refine wp_iconst d_Mod_end_25 (v := bI true) rfl ?_
    cases h
    exact wb_iret d_Mod_end_26 rfl rfl hq
  · replace h := ip h h15
    refine wp_iconst d_Mod_end_18 (v := bI false) rfl ?_
    cases h
    exact wb_iret d_Mod_end_19 rfl rfl hq
def F_Mod_raw (k_ : Int32) (M : mM) : Option (Int32) :=
  ob1 (if k_ < (M 312 8) then
  ob1 (ra M 317 400 k_) fun v7 =>
  some (v7)
  else
  some ((-1))) fun v4 =>
  some (v4)
theorem s_Mod_raw {k_ : Int32} {M : mM} {r : Int32} (h : F_Mod_raw k_ M = some r) (hq : Q (some (.int r)) (lay M)) : Sp X d f_Mod_raw [.ref 312, .int k_] (lay M) Q := by
  refine Sp_of (by decide) rfl (Nat.le_of_ble_eq_true rfl) ?_
  obtain ⟨v4, e5, h⟩ := ob1_some h
  have k3 : wp X d f_Mod_raw (0, 0) 18 [.ref 312, .int k_] [.int v4] (lay M) Q := by
    cases h
    exact wp_iret d_Mod_raw_18 rfl rfl rfl hq
  refine wp_iload_n d_Mod_raw_0 rfl rfl ?_
  refine wp_aload_n d_Mod_raw_1 rfl rfl ?_
  refine wl_getI d_Mod_raw_2 lf_Mod_149 sh_312 rfl rfl ?_
  refine wq_icmp_ge 17 d_Mod_raw_5 rfl (fun h5 => ?_) (fun h5 => ?_)
  · replace e5 := inn e5 h5
    refine wp_iconst d_Mod_raw_17 (v := (-1)) rfl ?_
    cases e5
    exact k3
  · replace e5 := ip e5 h5
    refine wp_aload_n d_Mod_raw_8 rfl rfl ?_
    refine wl_getR d_Mod_raw_9 lf_Mod_22 sh_312 rfl ?_
    refine wp_iload_n d_Mod_raw_12 rfl rfl ?_
    obtain ⟨v7, e6, e5⟩ := ob1_some e5
    refine wa_ald d_Mod_raw_13 sh_317 e6 ?_
    cases e5
    refine wp_goto 18 d_Mod_raw_14 rfl ?_
    exact k3
def F_Mod_isLetter (c_ : Int32) : Bool :=
  decide (((F_Mod_isIn c_ (nI 97) (nI 122)) = true ∨ (F_Mod_isIn c_ (nI 65) (nI 90)) = true))
theorem s_Mod_isLetter {c_ : Int32} {M : mM} {r : Bool} (h : F_Mod_isLetter c_ = r) (hq : Q (some (.int (bI r))) (lay M)) : Sp X (d + 1) f_Mod_isLetter [.ref 312, .int c_] (lay M) Q := by
  refine Sp_of (by decide) rfl (Nat.le_of_ble_eq_true rfl) ?_
  have k1 : wp X (d + 1) f_Mod_isLetter (0, 0) 29 [.ref 312, .int c_] [.int (bI (decide (((F_Mod_isIn c_ (nI 97) (nI 122)) = true ∨ (F_Mod_isIn c_ (nI 65) (nI 90)) = true))))] (lay M) Q := by
    cases h
    exact wb_iret d_Mod_isLetter_29 rfl rfl hq
  refine wp_aload_n d_Mod_isLetter_0 rfl rfl ?_
  refine wp_iload_n d_Mod_isLetter_1 rfl rfl ?_
  refine wp_bipush d_Mod_isLetter_2 (v := nI 97) rfl ?_
  refine wp_bipush d_Mod_isLetter_4 (v := nI 122) rfl ?_
  refine wl_callV3 d_Mod_isLetter_6 lc_Mod_isIn lv_Mod_135 rfl sh_312 rfl rfl ⟨rfl, rfl⟩ ⟨by decide, by decide⟩ ?_
  refine s_Mod_isIn (d := d) rfl ?_
  refine wc_ne 24 d_Mod_isLetter_9 rfl (fun h9 => ?_) (fun h9 => ?_)
  · refine wp_iconst d_Mod_isLetter_24 (v := nI 1) rfl ?_
    refine wp_goto 29 d_Mod_isLetter_25 rfl ?_
    exact wj_t (Or.inl h9) (k1)
  · refine wp_aload_n d_Mod_isLetter_12 rfl rfl ?_
    refine wp_iload_n d_Mod_isLetter_13 rfl rfl ?_
    refine wp_bipush d_Mod_isLetter_14 (v := nI 65) rfl ?_
    refine wp_bipush d_Mod_isLetter_16 (v := nI 90) rfl ?_
    refine wl_callV3 d_Mod_isLetter_18 lc_Mod_isIn lv_Mod_135 rfl sh_312 rfl rfl ⟨rfl, rfl⟩ ⟨by decide, by decide⟩ ?_
    refine s_Mod_isIn (d := d) rfl ?_
    refine wc_eq 28 d_Mod_isLetter_21 rfl (fun h21 => ?_) (fun h21 => ?_)
    · refine wp_iconst d_Mod_isLetter_28 (v := nI 0) rfl ?_
      exact wj_f (fun z => z.elim h9 h21) (k1)
    · refine wp_iconst d_Mod_isLetter_24 (v := nI 1) rfl ?_
      refine wp_goto 29 d_Mod_isLetter_25 rfl ?_
      exact wj_t (Or.inr h21) (k1)
def F_Mod_isDigit (c_ : Int32) : Bool :=
  F_Mod_isIn c_ (nI 48) (nI 57)
theorem s_Mod_isDigit {c_ : Int32} {M : mM} {r : Bool} (h : F_Mod_isDigit c_ = r) (hq : Q (some (.int (bI r))) (lay M)) : Sp X (d + 1) f_Mod_isDigit [.ref 312, .int c_] (lay M) Q := by
  refine Sp_of (by decide) rfl (Nat.le_of_ble_eq_true rfl) ?_
  refine wp_aload_n d_Mod_isDigit_0 rfl rfl ?_
  refine wp_iload_n d_Mod_isDigit_1 rfl rfl ?_
  refine wp_bipush d_Mod_isDigit_2 (v := nI 48) rfl ?_
  refine wp_bipush d_Mod_isDigit_4 (v := nI 57) rfl ?_
  refine wl_callV3 d_Mod_isDigit_6 lc_Mod_isIn lv_Mod_135 rfl sh_312 rfl rfl ⟨rfl, rfl⟩ ⟨by decide, by decide⟩ ?_
  refine s_Mod_isIn (d := d) rfl ?_
  cases h
  exact wb_iret d_Mod_isDigit_9 rfl rfl hq
def F_Mod_isMarkSign (c_ : Int32) : Bool :=
  decide ((((((((((c_ = (nI 59) ∨ c_ = (nI 43)) ∨ c_ = (nI 45)) ∨ c_ = (nI 42)) ∨ c_ = (nI 47)) ∨ c_ = (nI 40)) ∨ c_ = (nI 41)) ∨ c_ = (nI 60)) ∨ c_ = (nI 61)) ∨ c_ = (nI 62)))
theorem s_Mod_isMarkSign {c_ : Int32} {M : mM} {r : Bool} (h : F_Mod_isMarkSign c_ = r) (hq : Q (some (.int (bI r))) (lay M)) : Sp X d f_Mod_isMarkSign [.ref 312, .int c_] (lay M) Q := by
  refine Sp_of (by decide) rfl (Nat.le_of_ble_eq_true rfl) ?_
  have k1 : wp X d f_Mod_isMarkSign (0, 0) 65 [.ref 312, .int c_] [.int (bI (decide ((((((((((c_ = (nI 59) ∨ c_ = (nI 43)) ∨ c_ = (nI 45)) ∨ c_ = (nI 42)) ∨ c_ = (nI 47)) ∨ c_ = (nI 40)) ∨ c_ = (nI 41)) ∨ c_ = (nI 60)) ∨ c_ = (nI 61)) ∨ c_ = (nI 62)))))] (lay M) Q := by
    cases h
    exact wb_iret d_Mod_isMarkSign_65 rfl rfl hq
  refine wp_iload_n d_Mod_isMarkSign_0 rfl rfl ?_
  refine wp_bipush d_Mod_isMarkSign_1 (v := nI 59) rfl ?_
  refine wq_icmp_eq 60 d_Mod_isMarkSign_3 rfl (fun h3 => ?_) (fun h3 => ?_)
  · refine wp_iconst d_Mod_isMarkSign_60 (v := nI 1) rfl ?_
    refine wp_goto 65 d_Mod_isMarkSign_61 rfl ?_
    exact wj_t (Or.inl (Or.inl (Or.inl (Or.inl (Or.inl (Or.inl (Or.inl (Or.inl (Or.inl h3))))))))) (k1)
  · refine wp_iload_n d_Mod_isMarkSign_6 rfl rfl ?_
    refine wp_bipush d_Mod_isMarkSign_7 (v := nI 43) rfl ?_
    refine wq_icmp_eq 60 d_Mod_isMarkSign_9 rfl (fun h9 => ?_) (fun h9 => ?_)
    · refine wp_iconst d_Mod_isMarkSign_60 (v := nI 1) rfl ?_
      refine wp_goto 65 d_Mod_isMarkSign_61 rfl ?_
      exact wj_t (Or.inl (Or.inl (Or.inl (Or.inl (Or.inl (Or.inl (Or.inl (Or.inl (Or.inr h9))))))))) (k1)
    · refine wp_iload_n d_Mod_isMarkSign_12 rfl rfl ?_
      refine wp_bipush d_Mod_isMarkSign_13 (v := nI 45) rfl ?_
      refine wq_icmp_eq 60 d_Mod_isMarkSign_15 rfl (fun h15 => ?_) (fun h15 => ?_)
      · refine wp_iconst d_Mod_isMarkSign_60 (v := nI 1) rfl ?_
        refine wp_goto 65 d_Mod_isMarkSign_61 rfl ?_
        exact wj_t (Or.inl (Or.inl (Or.inl (Or.inl (Or.inl (Or.inl (Or.inl (Or.inr h15)))))))) (k1)
      · refine wp_iload_n d_Mod_isMarkSign_18 rfl rfl ?_
        refine wp_bipush d_Mod_isMarkSign_19 (v := nI 42) rfl ?_
        refine wq_icmp_eq 60 d_Mod_isMarkSign_21 rfl (fun h21 => ?_) (fun h21 => ?_)
        · refine wp_iconst d_Mod_isMarkSign_60 (v := nI 1) rfl ?_
          refine wp_goto 65 d_Mod_isMarkSign_61 rfl ?_
          exact wj_t (Or.inl (Or.inl (Or.inl (Or.inl (Or.inl (Or.inl (Or.inr h21))))))) (k1)
        · refine wp_iload_n d_Mod_isMarkSign_24 rfl rfl ?_
          refine wp_bipush d_Mod_isMarkSign_25 (v := nI 47) rfl ?_
          refine wq_icmp_eq 60 d_Mod_isMarkSign_27 rfl (fun h27 => ?_) (fun h27 => ?_)
          · refine wp_iconst d_Mod_isMarkSign_60 (v := nI 1) rfl ?_
            refine wp_goto 65 d_Mod_isMarkSign_61 rfl ?_
            exact wj_t (Or.inl (Or.inl (Or.inl (Or.inl (Or.inl (Or.inr h27)))))) (k1)
          · refine wp_iload_n d_Mod_isMarkSign_30 rfl rfl ?_
            refine wp_bipush d_Mod_isMarkSign_31 (v := nI 40) rfl ?_
            refine wq_icmp_eq 60 d_Mod_isMarkSign_33 rfl (fun h33 => ?_) (fun h33 => ?_)
            · refine wp_iconst d_Mod_isMarkSign_60 (v := nI 1) rfl ?_
              refine wp_goto 65 d_Mod_isMarkSign_61 rfl ?_
              exact wj_t (Or.inl (Or.inl (Or.inl (Or.inl (Or.inr h33))))) (k1)
            · refine wp_iload_n d_Mod_isMarkSign_36 rfl rfl ?_
              refine wp_bipush d_Mod_isMarkSign_37 (v := nI 41) rfl ?_
              refine wq_icmp_eq 60 d_Mod_isMarkSign_39 rfl (fun h39 => ?_) (fun h39 => ?_)
              · refine wp_iconst d_Mod_isMarkSign_60 (v := nI 1) rfl ?_
                refine wp_goto 65 d_Mod_isMarkSign_61 rfl ?_
                exact wj_t (Or.inl (Or.inl (Or.inl (Or.inr h39)))) (k1)
              · refine wp_iload_n d_Mod_isMarkSign_42 rfl rfl ?_
                refine wp_bipush d_Mod_isMarkSign_43 (v := nI 60) rfl ?_
                refine wq_icmp_eq 60 d_Mod_isMarkSign_45 rfl (fun h45 => ?_) (fun h45 => ?_)
                · refine wp_iconst d_Mod_isMarkSign_60 (v := nI 1) rfl ?_
                  refine wp_goto 65 d_Mod_isMarkSign_61 rfl ?_
                  exact wj_t (Or.inl (Or.inl (Or.inr h45))) (k1)
                · refine wp_iload_n d_Mod_isMarkSign_48 rfl rfl ?_
                  refine wp_bipush d_Mod_isMarkSign_49 (v := nI 61) rfl ?_
                  refine wq_icmp_eq 60 d_Mod_isMarkSign_51 rfl (fun h51 => ?_) (fun h51 => ?_)
                  · refine wp_iconst d_Mod_isMarkSign_60 (v := nI 1) rfl ?_
                    refine wp_goto 65 d_Mod_isMarkSign_61 rfl ?_
                    exact wj_t (Or.inl (Or.inr h51)) (k1)
                  · refine wp_iload_n d_Mod_isMarkSign_54 rfl rfl ?_
                    refine wp_bipush d_Mod_isMarkSign_55 (v := nI 62) rfl ?_
                    refine wq_icmp_ne 64 d_Mod_isMarkSign_57 rfl (fun h57 => ?_) (fun h57 => ?_)
                    · refine wp_iconst d_Mod_isMarkSign_64 (v := nI 0) rfl ?_
                      exact wj_f (fun z => z.elim (fun z => z.elim (fun z => z.elim (fun z => z.elim (fun z => z.elim (fun z => z.elim (fun z => z.elim (fun z => z.elim (fun z => z.elim h3 h9) h15) h21) h27) h33) h39) h45) h51) h57) (k1)
                    · refine wp_iconst d_Mod_isMarkSign_60 (v := nI 1) rfl ?_
                      refine wp_goto 65 d_Mod_isMarkSign_61 rfl ?_
                      exact wj_t (Or.inr h57) (k1)
def L_Mod_wordAt_2 (z : Nat) (a_ : Int32) (b_ : Int32) (k_ : Int32) (M : mM) : Nat → Int32 → Option (Int32)
  | 0, _ => none
  | n + 1, i_ =>
    ob1 (if (a_ + i_) < b_ then ob1 (ra M 318 143 ((k_ + (nI 1)) + i_)) fun v16 =>
    ob1 (ra M 317 400 (a_ + i_)) fun v18 =>
    some (decide (v16 = v18))
    else some (false)) fun x5 =>
    if x5 = true then
    L_Mod_wordAt_2 z a_ b_ k_ M n (i_ + (nI 1))
    else
    some (i_)
def L_Mod_wordAt_3 (z : Nat) (M : mM) : Nat → Int32 → Option (Int32)
  | 0, _ => none
  | n + 1, k_ =>
    ob1 (ob1 (ra M 318 143 k_) fun v39 =>
    some (decide (¬ (v39 = (nI 32))))) fun x30 =>
    if x30 = true then
    L_Mod_wordAt_3 z M n (k_ + (nI 1))
    else
    some (k_)
def L_Mod_wordAt_1 (z : Nat) (a_ : Int32) (b_ : Int32) (M : mM) (kt : Int32 → Int32 → Option (Int32)) : Nat → Int32 → Int32 → Option (Int32)
  | 0, _, _ => none
  | n + 1, number_, k_ =>
    if k_ < (nI 142) then
    ob1 (L_Mod_wordAt_2 z a_ b_ k_ M z (nI 0)) fun i_19 =>
    ob1 (if (a_ + i_19) = b_ then ob1 (ra M 318 143 ((k_ + (nI 1)) + i_19)) fun v43 =>
    some (decide (v43 = (nI 32)))
    else some (false)) fun x20 =>
    if x20 = true then
    some (number_ + (nI 1))
    else
    ob1 (L_Mod_wordAt_3 z M z (k_ + (nI 1))) fun k_40 =>
    L_Mod_wordAt_1 z a_ b_ M kt n (number_ + (nI 1)) k_40
    else
    kt number_ k_
def F_Mod_wordAt (z : Nat) (a_ : Int32) (b_ : Int32) (M : mM) : Option (Int32) :=
  L_Mod_wordAt_1 z a_ b_ M (fun (number_45 : Int32) (k_46 : Int32) =>
  some ((-1))) z (-1) (nI 0)
theorem l_Mod_wordAt_2 {a_ : Int32} {b_ : Int32} {k_ : Int32} {M : mM}  {q3 : Value} {i_r : Int32} (K : wp X d f_Mod_wordAt (0, 0) 61 [.ref 312, .int a_, .int b_, q3, .int k_, .int i_r] [] (lay M) Q) : ∀ (n : Nat) (i_ : Int32), L_Mod_wordAt_2 z a_ b_ k_ M n i_ = some (i_r) → wp X d f_Mod_wordAt (0, 0) 20 [.ref 312, .int a_, .int b_, q3, .int k_, .int i_] [] (lay M) Q := by
  intro n
  induction n with
  | zero => intro i_ h; exact nn h
  | succ n ih =>
    intro i_ h
    obtain ⟨x5, e6, h⟩ := ob1_some h
    have k11 : x5 = true → wp X d f_Mod_wordAt (0, 0) 52 [.ref 312, .int a_, .int b_, q3, .int k_, .int i_] [] (lay M) Q := by
      intro x12
      replace h := ip h x12
      refine wp_iload d_Mod_wordAt_52 rfl ?_
      refine wp_iconst d_Mod_wordAt_54 (v := nI 1) rfl ?_
      refine wp_iadd d_Mod_wordAt_55 ?_
      refine wp_istore d_Mod_wordAt_56 (by decide) ?_
      refine wp_goto 20 d_Mod_wordAt_58 rfl ?_
      exact ih _ h
    have k13 : ¬ x5 = true → wp X d f_Mod_wordAt (0, 0) 61 [.ref 312, .int a_, .int b_, q3, .int k_, .int i_] [] (lay M) Q := by
      intro x14
      replace h := inn h x14
      cases h
      exact K
    refine wp_iload_n d_Mod_wordAt_20 rfl rfl ?_
    refine wp_iload d_Mod_wordAt_21 rfl ?_
    refine wp_iadd d_Mod_wordAt_23 ?_
    refine wp_iload_n d_Mod_wordAt_24 rfl rfl ?_
    refine wq_icmp_ge 61 d_Mod_wordAt_25 rfl (fun h25 => ?_) (fun h25 => ?_)
    · replace e6 := inn e6 h25
      cases e6
      exact k13 (fun z => Bool.noConfusion z)
    · replace e6 := ip e6 h25
      refine wp_aload_n d_Mod_wordAt_28 rfl rfl ?_
      refine wl_getR d_Mod_wordAt_29 lf_Mod_25 sh_312 rfl ?_
      refine wp_iload d_Mod_wordAt_32 rfl ?_
      refine wp_iconst d_Mod_wordAt_34 (v := nI 1) rfl ?_
      refine wp_iadd d_Mod_wordAt_35 ?_
      refine wp_iload d_Mod_wordAt_36 rfl ?_
      refine wp_iadd d_Mod_wordAt_38 ?_
      obtain ⟨v16, e15, e6⟩ := ob1_some e6
      refine wa_ald d_Mod_wordAt_39 sh_318 e15 ?_
      refine wp_aload_n d_Mod_wordAt_40 rfl rfl ?_
      refine wl_getR d_Mod_wordAt_41 lf_Mod_22 sh_312 rfl ?_
      refine wp_iload_n d_Mod_wordAt_44 rfl rfl ?_
      refine wp_iload d_Mod_wordAt_45 rfl ?_
      refine wp_iadd d_Mod_wordAt_47 ?_
      obtain ⟨v18, e17, e6⟩ := ob1_some e6
      refine wa_ald d_Mod_wordAt_48 sh_317 e17 ?_
      refine wq_icmp_ne 61 d_Mod_wordAt_49 rfl (fun h49 => ?_) (fun h49 => ?_)
      · cases e6
        exact k13 (fun z => h49 (of_decide_eq_true z))
      · cases e6
        exact k11 (decide_eq_true h49)
theorem l_Mod_wordAt_3 {M : mM}  {q1 : Value} {q2 : Value} {q3 : Value} {q5 : Value} {k_r : Int32} (K : wp X d f_Mod_wordAt (0, 0) 5 [.ref 312, q1, q2, q3, .int k_r, q5] [] (lay M) Q) : ∀ (n : Nat) (k_ : Int32), L_Mod_wordAt_3 z M n k_ = some (k_r) → wp X d f_Mod_wordAt (0, 0) 94 [.ref 312, q1, q2, q3, .int k_, q5] [] (lay M) Q := by
  intro n
  induction n with
  | zero => intro k_ h; exact nn h
  | succ n ih =>
    intro k_ h
    obtain ⟨x30, e31, h⟩ := ob1_some h
    have k34 : x30 = true → wp X d f_Mod_wordAt (0, 0) 106 [.ref 312, q1, q2, q3, .int k_, q5] [] (lay M) Q := by
      intro x35
      replace h := ip h x35
      refine wp_iload d_Mod_wordAt_106 rfl ?_
      refine wp_iconst d_Mod_wordAt_108 (v := nI 1) rfl ?_
      refine wp_iadd d_Mod_wordAt_109 ?_
      refine wp_istore d_Mod_wordAt_110 (by decide) ?_
      refine wp_goto 94 d_Mod_wordAt_112 rfl ?_
      exact ih _ h
    have k36 : ¬ x30 = true → wp X d f_Mod_wordAt (0, 0) 115 [.ref 312, q1, q2, q3, .int k_, q5] [] (lay M) Q := by
      intro x37
      replace h := inn h x37
      cases h
      refine wp_goto 5 d_Mod_wordAt_115 rfl ?_
      exact K
    refine wp_aload_n d_Mod_wordAt_94 rfl rfl ?_
    refine wl_getR d_Mod_wordAt_95 lf_Mod_25 sh_312 rfl ?_
    refine wp_iload d_Mod_wordAt_98 rfl ?_
    obtain ⟨v39, e38, e31⟩ := ob1_some e31
    refine wa_ald d_Mod_wordAt_100 sh_318 e38 ?_
    refine wp_bipush d_Mod_wordAt_101 (v := nI 32) rfl ?_
    refine wq_icmp_eq 115 d_Mod_wordAt_103 rfl (fun h103 => ?_) (fun h103 => ?_)
    · cases e31
      exact k36 (fun z => (fun z => z h103) (of_decide_eq_true z))
    · cases e31
      exact k34 (decide_eq_true h103)
theorem l_Mod_wordAt_1 {a_ : Int32} {b_ : Int32} {M : mM} {kt : Int32 → Int32 → Option (Int32)}  {r : Int32} (hq : Q (some (.int r)) (lay M)) (K : ∀ (number_r : Int32) (k_r : Int32) (u5 : Value), kt number_r k_r = some r → wp X d f_Mod_wordAt (0, 0) 118 [.ref 312, .int a_, .int b_, .int number_r, .int k_r, u5] [] (lay M) Q) : ∀ (n : Nat) (number_ : Int32) (k_ : Int32) (u5 : Value), L_Mod_wordAt_1 z a_ b_ M kt n number_ k_ = some r → wp X d f_Mod_wordAt (0, 0) 5 [.ref 312, .int a_, .int b_, .int number_, .int k_, u5] [] (lay M) Q := by
  intro n
  induction n with
  | zero => intro number_ k_ u5 h; exact nn h
  | succ n ih =>
    intro number_ k_ u5 h
    refine wp_iload d_Mod_wordAt_5 rfl ?_
    refine wp_sipush d_Mod_wordAt_7 (v := nI 142) rfl ?_
    refine wq_icmp_ge 118 d_Mod_wordAt_10 rfl (fun h10 => ?_) (fun h10 => ?_)
    · replace h := inn h h10
      exact K _ _ _ h
    · replace h := ip h h10
      refine wp_iconst d_Mod_wordAt_13 (v := nI 0) rfl ?_
      refine wp_istore d_Mod_wordAt_14 (by decide) ?_
      refine wp_iload_n d_Mod_wordAt_16 rfl rfl ?_
      refine wp_iconst d_Mod_wordAt_17 (v := nI 1) rfl ?_
      refine wp_iadd d_Mod_wordAt_18 ?_
      refine wp_istore_n d_Mod_wordAt_19 rfl (by decide) ?_
      obtain ⟨i_19, e44, h⟩ := ob1_some h
      refine l_Mod_wordAt_2 ?_ _ _ e44
      obtain ⟨x20, e21, h⟩ := ob1_some h
      have k24 : x20 = true → wp X d f_Mod_wordAt (0, 0) 86 [.ref 312, .int a_, .int b_, .int (number_ + (nI 1)), .int k_, .int i_19] [] (lay M) Q := by
        intro x25
        replace h := ip h x25
        refine wp_iload_n d_Mod_wordAt_86 rfl rfl ?_
        cases h
        exact wp_iret d_Mod_wordAt_87 rfl rfl rfl hq
      have k26 : ¬ x20 = true → wp X d f_Mod_wordAt (0, 0) 88 [.ref 312, .int a_, .int b_, .int (number_ + (nI 1)), .int k_, .int i_19] [] (lay M) Q := by
        intro x27
        replace h := inn h x27
        refine wp_iload d_Mod_wordAt_88 rfl ?_
        refine wp_iconst d_Mod_wordAt_90 (v := nI 1) rfl ?_
        refine wp_iadd d_Mod_wordAt_91 ?_
        refine wp_istore d_Mod_wordAt_92 (by decide) ?_
        obtain ⟨k_40, e41, h⟩ := ob1_some h
        refine l_Mod_wordAt_3 ?_ _ _ e41
        exact ih _ _ _ h
      refine wp_iload_n d_Mod_wordAt_61 rfl rfl ?_
      refine wp_iload d_Mod_wordAt_62 rfl ?_
      refine wp_iadd d_Mod_wordAt_64 ?_
      refine wp_iload_n d_Mod_wordAt_65 rfl rfl ?_
      refine wq_icmp_ne 88 d_Mod_wordAt_66 rfl (fun h66 => ?_) (fun h66 => ?_)
      · replace e21 := inn e21 h66
        cases e21
        exact k26 (fun z => Bool.noConfusion z)
      · replace e21 := ip e21 h66
        refine wp_aload_n d_Mod_wordAt_69 rfl rfl ?_
        refine wl_getR d_Mod_wordAt_70 lf_Mod_25 sh_312 rfl ?_
        refine wp_iload d_Mod_wordAt_73 rfl ?_
        refine wp_iconst d_Mod_wordAt_75 (v := nI 1) rfl ?_
        refine wp_iadd d_Mod_wordAt_76 ?_
        refine wp_iload d_Mod_wordAt_77 rfl ?_
        refine wp_iadd d_Mod_wordAt_79 ?_
        obtain ⟨v43, e42, e21⟩ := ob1_some e21
        refine wa_ald d_Mod_wordAt_80 sh_318 e42 ?_
        refine wp_bipush d_Mod_wordAt_81 (v := nI 32) rfl ?_
        refine wq_icmp_ne 88 d_Mod_wordAt_83 rfl (fun h83 => ?_) (fun h83 => ?_)
        · cases e21
          exact k26 (fun z => h83 (of_decide_eq_true z))
        · cases e21
          exact k24 (decide_eq_true h83)
theorem s_Mod_wordAt {a_ : Int32} {b_ : Int32} {M : mM} {r : Int32} (h : F_Mod_wordAt z a_ b_ M = some r) (hq : Q (some (.int r)) (lay M)) : Sp X d f_Mod_wordAt [.ref 312, .int a_, .int b_] (lay M) Q := by
  refine Sp_of (by decide) rfl (Nat.le_of_ble_eq_true rfl) ?_
  refine wp_iconst d_Mod_wordAt_0 (v := (-1)) rfl ?_
  refine wp_istore_n d_Mod_wordAt_1 rfl (by decide) ?_
  refine wp_iconst d_Mod_wordAt_2 (v := nI 0) rfl ?_
  refine wp_istore d_Mod_wordAt_3 (by decide) ?_
  refine l_Mod_wordAt_1 hq ?_ _ _ _ _ h
  intro number_45 k_46 u5 h
  refine wp_iconst d_Mod_wordAt_118 (v := (-1)) rfl ?_
  cases h
  exact wp_iret d_Mod_wordAt_119 rfl rfl rfl hq
def L_Mod_reads_1 (z : Nat) : Nat → mM → Option (mM)
  | 0, _ => none
  | n + 1, M =>
    ob1 (ob1 (ob1 (F_Mod_raw (M 312 9) M) fun v43 =>
    some (decide (v43 = (nI 32)))) fun x33 =>
    if x33 = true then some (true)
    else ob1 (F_Mod_raw (M 312 9) M) fun v41 =>
    some (decide (v41 = (nI 10)))) fun x13 =>
    if x13 = true then
    ob1 (some (up M 312 9 ((M 312 9) + (nI 1)))) fun M29 =>
    L_Mod_reads_1 z n M29
    else
    some (M)
def L_Mod_reads_2 (z : Nat) : Nat → mM → Option (mM)
  | 0, _ => none
  | n + 1, M =>
    ob1 (ob1 (F_Mod_raw (M 312 9) M) fun v81 =>
    some (F_Mod_isDigit v81)) fun x62 =>
    if x62 = true then
    ob1 (if (M 312 12) < (nI 10000) then
    ob1 (F_Mod_raw (M 312 9) M) fun v77 =>
    some ((((nI 10) * (M 312 12)) + v77) - (nI 48))
    else
    some (M 312 12)) fun v71 =>
    ob1 (some (up M 312 12 v71)) fun M73 =>
    ob1 (some (up M73 312 9 ((M73 312 9) + (nI 1)))) fun M75 =>
    L_Mod_reads_2 z n M75
    else
    some (M)
def L_Mod_reads_3 (z : Nat) : Nat → mM → Option (mM)
  | 0, _ => none
  | n + 1, M =>
    ob1 (ob1 (F_Mod_raw (M 312 9) M) fun v99 =>
    some (F_Mod_isLetter v99)) fun x89 =>
    if x89 = true then
    ob1 (some (up M 312 9 ((M 312 9) + (nI 1)))) fun M95 =>
    L_Mod_reads_3 z n M95
    else
    some (M)
def F_Mod_reads (z : Nat) (M : mM) : Option mM :=
  ob1 (L_Mod_reads_1 z z M) fun M45 =>
  ob1 (some (up M45 312 10 (M45 312 9))) fun M46 =>
  ob1 (some (up M46 312 11 (nI 1))) fun M48 =>
  ob1 (F_Mod_raw (M48 312 9) M48) fun v50 =>
  if v50 = (-1) then
  ob1 (some (up M48 312 11 (nI 0))) fun M109 =>
  some M109
  else
  ob1 (some (up M48 312 9 ((M48 312 9) + (nI 1)))) fun M52 =>
  ob1 (some (up M52 312 12 v50)) fun M54 =>
  if (F_Mod_isLetter v50) = true then
  ob1 (L_Mod_reads_3 z z M54) fun M101 =>
  ob1 (F_Mod_wordAt z (M101 312 10) (M101 312 9) M101) fun v102 =>
  ob1 (some (up M101 312 12 v102)) fun M104 =>
  if ¬ ((M104 312 12) = (-1)) then
  ob1 (some (up M104 312 11 (nI 2))) fun M106 =>
  some M106
  else
  some M104
  else
  if (F_Mod_isDigit v50) = true then
  ob1 (some (up M54 312 12 (v50 - (nI 48)))) fun M58 =>
  ob1 (L_Mod_reads_2 z z M58) fun M83 =>
  if ((M83 312 9) - (M83 312 10)) < (nI 5) then
  ob1 (some (up M83 312 11 (nI 3))) fun M84 =>
  some M84
  else
  some M83
  else
  if (F_Mod_isMarkSign v50) = true then
  ob1 (some (up M54 312 11 (nI 4))) fun M56 =>
  some M56
  else
  some M54
theorem l_Mod_reads_1  {N' : mM} (K : ∀ u1 : Value, wp X (d + 2) f_Mod_reads (0, 0) 39 [.ref 312, u1] [] (lay N') Q) : ∀ (n : Nat)  (M : mM) (u1 : Value), L_Mod_reads_1 z n M = some (N') → wp X (d + 2) f_Mod_reads (0, 0) 0 [.ref 312, u1] [] (lay M) Q := by
  intro n
  induction n with
  | zero => intro M u1 h; exact nn h
  | succ n ih =>
    intro M u1 h
    obtain ⟨x13, e14, h⟩ := ob1_some h
    have k27 : ∀ u1 : Value, x13 = true → wp X (d + 2) f_Mod_reads (0, 0) 26 [.ref 312, u1] [] (lay M) Q := by
      intro u1 x28
      replace h := ip h x28
      refine wp_aload_n d_Mod_reads_26 rfl rfl ?_
      refine wp_aload_n d_Mod_reads_27 rfl rfl ?_
      refine wl_getI d_Mod_reads_28 lf_Mod_156 sh_312 rfl rfl ?_
      refine wp_iconst d_Mod_reads_31 (v := nI 1) rfl ?_
      refine wp_iadd d_Mod_reads_32 ?_
      refine wl_put d_Mod_reads_33 lp_Mod_156 sh_312 rfl ⟨rfl, rfl⟩ ?_
      obtain ⟨M29, e30, h⟩ := ob1_some h
      refine wx_M e30 ?_
      refine wp_goto 0 d_Mod_reads_36 rfl ?_
      exact ih _ _ h
    have k31 : ∀ u1 : Value, ¬ x13 = true → wp X (d + 2) f_Mod_reads (0, 0) 39 [.ref 312, u1] [] (lay M) Q := by
      intro u1 x32
      replace h := inn h x32
      cases h
      exact K _
    obtain ⟨x33, e34, e14⟩ := ob1_some e14
    have k37 : ∀ u1 : Value, x33 = true → wp X (d + 2) f_Mod_reads (0, 0) 26 [.ref 312, u1] [] (lay M) Q := by
      intro u1 x38
      replace e14 := ip e14 x38
      cases e14
      exact k27 _ rfl
    have k39 : ∀ u1 : Value, ¬ x33 = true → wp X (d + 2) f_Mod_reads (0, 0) 13 [.ref 312, u1] [] (lay M) Q := by
      intro u1 x40
      replace e14 := inn e14 x40
      refine wp_aload_n d_Mod_reads_13 rfl rfl ?_
      refine wp_aload_n d_Mod_reads_14 rfl rfl ?_
      refine wl_getI d_Mod_reads_15 lf_Mod_156 sh_312 rfl rfl ?_
      obtain ⟨v41, e42, e14⟩ := ob1_some e14
      refine wl_callV1 d_Mod_reads_18 lc_Mod_raw lv_Mod_159 rfl sh_312 rfl rfl ⟨rfl, rfl⟩ ⟨by decide, by decide⟩ ?_
      refine s_Mod_raw (d := d + 1) e42 ?_
      refine wp_bipush d_Mod_reads_21 (v := nI 10) rfl ?_
      refine wq_icmp_ne 39 d_Mod_reads_23 rfl (fun h23 => ?_) (fun h23 => ?_)
      · cases e14
        exact k31 _ (fun z => h23 (of_decide_eq_true z))
      · cases e14
        exact k27 _ (decide_eq_true h23)
    refine wp_aload_n d_Mod_reads_0 rfl rfl ?_
    refine wp_aload_n d_Mod_reads_1 rfl rfl ?_
    refine wl_getI d_Mod_reads_2 lf_Mod_156 sh_312 rfl rfl ?_
    obtain ⟨v43, e44, e34⟩ := ob1_some e34
    refine wl_callV1 d_Mod_reads_5 lc_Mod_raw lv_Mod_159 rfl sh_312 rfl rfl ⟨rfl, rfl⟩ ⟨by decide, by decide⟩ ?_
    refine s_Mod_raw (d := d + 1) e44 ?_
    refine wp_bipush d_Mod_reads_8 (v := nI 32) rfl ?_
    refine wq_icmp_eq 26 d_Mod_reads_10 rfl (fun h10 => ?_) (fun h10 => ?_)
    · cases e34
      exact k37 _ (decide_eq_true h10)
    · cases e34
      exact k39 _ (fun z => h10 (of_decide_eq_true z))
theorem l_Mod_reads_2  {q1 : Value} {N' : mM} (K : wp X (d + 2) f_Mod_reads (0, 0) 239 [.ref 312, q1] [] (lay N') Q) : ∀ (n : Nat)  (M : mM), L_Mod_reads_2 z n M = some (N') → wp X (d + 2) f_Mod_reads (0, 0) 171 [.ref 312, q1] [] (lay M) Q := by
  intro n
  induction n with
  | zero => intro M h; exact nn h
  | succ n ih =>
    intro M h
    obtain ⟨x62, e63, h⟩ := ob1_some h
    have k66 : x62 = true → wp X (d + 2) f_Mod_reads (0, 0) 186 [.ref 312, q1] [] (lay M) Q := by
      intro x67
      replace h := ip h x67
      refine wp_aload_n d_Mod_reads_186 rfl rfl ?_
      obtain ⟨v71, e72, h⟩ := ob1_some h
      have k70 : wp X (d + 2) f_Mod_reads (0, 0) 223 [.ref 312, q1] [.int v71, .ref 312] (lay M) Q := by
        refine wl_put d_Mod_reads_223 lp_Mod_168 sh_312 rfl ⟨rfl, rfl⟩ ?_
        obtain ⟨M73, e74, h⟩ := ob1_some h
        refine wx_M e74 ?_
        refine wp_aload_n d_Mod_reads_226 rfl rfl ?_
        refine wp_aload_n d_Mod_reads_227 rfl rfl ?_
        refine wl_getI d_Mod_reads_228 lf_Mod_156 sh_312 rfl rfl ?_
        refine wp_iconst d_Mod_reads_231 (v := nI 1) rfl ?_
        refine wp_iadd d_Mod_reads_232 ?_
        refine wl_put d_Mod_reads_233 lp_Mod_156 sh_312 rfl ⟨rfl, rfl⟩ ?_
        obtain ⟨M75, e76, h⟩ := ob1_some h
        refine wx_M e76 ?_
        refine wp_goto 171 d_Mod_reads_236 rfl ?_
        exact ih _ h
      refine wp_aload_n d_Mod_reads_187 rfl rfl ?_
      refine wl_getI d_Mod_reads_188 lf_Mod_168 sh_312 rfl rfl ?_
      refine wp_sipush d_Mod_reads_191 (v := nI 10000) rfl ?_
      refine wq_icmp_ge 219 d_Mod_reads_194 rfl (fun h194 => ?_) (fun h194 => ?_)
      · replace e72 := inn e72 h194
        refine wp_aload_n d_Mod_reads_219 rfl rfl ?_
        refine wl_getI d_Mod_reads_220 lf_Mod_168 sh_312 rfl rfl ?_
        cases e72
        exact k70
      · replace e72 := ip e72 h194
        refine wp_bipush d_Mod_reads_197 (v := nI 10) rfl ?_
        refine wp_aload_n d_Mod_reads_199 rfl rfl ?_
        refine wl_getI d_Mod_reads_200 lf_Mod_168 sh_312 rfl rfl ?_
        refine wp_imul d_Mod_reads_203 ?_
        refine wp_aload_n d_Mod_reads_204 rfl rfl ?_
        refine wp_aload_n d_Mod_reads_205 rfl rfl ?_
        refine wl_getI d_Mod_reads_206 lf_Mod_156 sh_312 rfl rfl ?_
        obtain ⟨v77, e78, e72⟩ := ob1_some e72
        refine wl_callV1 d_Mod_reads_209 lc_Mod_raw lv_Mod_159 rfl sh_312 rfl rfl ⟨rfl, rfl⟩ ⟨by decide, by decide⟩ ?_
        refine s_Mod_raw (d := d + 1) e78 ?_
        refine wp_iadd d_Mod_reads_212 ?_
        refine wp_bipush d_Mod_reads_213 (v := nI 48) rfl ?_
        refine wp_isub d_Mod_reads_215 ?_
        cases e72
        refine wp_goto 223 d_Mod_reads_216 rfl ?_
        exact k70
    have k79 : ¬ x62 = true → wp X (d + 2) f_Mod_reads (0, 0) 239 [.ref 312, q1] [] (lay M) Q := by
      intro x80
      replace h := inn h x80
      cases h
      exact K
    refine wp_aload_n d_Mod_reads_171 rfl rfl ?_
    refine wp_aload_n d_Mod_reads_172 rfl rfl ?_
    refine wp_aload_n d_Mod_reads_173 rfl rfl ?_
    refine wl_getI d_Mod_reads_174 lf_Mod_156 sh_312 rfl rfl ?_
    obtain ⟨v81, e82, e63⟩ := ob1_some e63
    refine wl_callV1 d_Mod_reads_177 lc_Mod_raw lv_Mod_159 rfl sh_312 rfl rfl ⟨rfl, rfl⟩ ⟨by decide, by decide⟩ ?_
    refine s_Mod_raw (d := d + 1) e82 ?_
    refine wl_callV1 d_Mod_reads_180 lc_Mod_isDigit lv_Mod_178 rfl sh_312 rfl rfl ⟨rfl, rfl⟩ ⟨by decide, by decide⟩ ?_
    refine s_Mod_isDigit (d := d) rfl ?_
    refine wc_eq 239 d_Mod_reads_183 rfl (fun h183 => ?_) (fun h183 => ?_)
    · cases e63
      exact k79 h183
    · cases e63
      exact k66 h183
theorem l_Mod_reads_3  {q1 : Value} {N' : mM} (K : wp X (d + 2) f_Mod_reads (0, 0) 123 [.ref 312, q1] [] (lay N') Q) : ∀ (n : Nat)  (M : mM), L_Mod_reads_3 z n M = some (N') → wp X (d + 2) f_Mod_reads (0, 0) 95 [.ref 312, q1] [] (lay M) Q := by
  intro n
  induction n with
  | zero => intro M h; exact nn h
  | succ n ih =>
    intro M h
    obtain ⟨x89, e90, h⟩ := ob1_some h
    have k93 : x89 = true → wp X (d + 2) f_Mod_reads (0, 0) 110 [.ref 312, q1] [] (lay M) Q := by
      intro x94
      replace h := ip h x94
      refine wp_aload_n d_Mod_reads_110 rfl rfl ?_
      refine wp_aload_n d_Mod_reads_111 rfl rfl ?_
      refine wl_getI d_Mod_reads_112 lf_Mod_156 sh_312 rfl rfl ?_
      refine wp_iconst d_Mod_reads_115 (v := nI 1) rfl ?_
      refine wp_iadd d_Mod_reads_116 ?_
      refine wl_put d_Mod_reads_117 lp_Mod_156 sh_312 rfl ⟨rfl, rfl⟩ ?_
      obtain ⟨M95, e96, h⟩ := ob1_some h
      refine wx_M e96 ?_
      refine wp_goto 95 d_Mod_reads_120 rfl ?_
      exact ih _ h
    have k97 : ¬ x89 = true → wp X (d + 2) f_Mod_reads (0, 0) 123 [.ref 312, q1] [] (lay M) Q := by
      intro x98
      replace h := inn h x98
      cases h
      exact K
    refine wp_aload_n d_Mod_reads_95 rfl rfl ?_
    refine wp_aload_n d_Mod_reads_96 rfl rfl ?_
    refine wp_aload_n d_Mod_reads_97 rfl rfl ?_
    refine wl_getI d_Mod_reads_98 lf_Mod_156 sh_312 rfl rfl ?_
    obtain ⟨v99, e100, e90⟩ := ob1_some e90
    refine wl_callV1 d_Mod_reads_101 lc_Mod_raw lv_Mod_159 rfl sh_312 rfl rfl ⟨rfl, rfl⟩ ⟨by decide, by decide⟩ ?_
    refine s_Mod_raw (d := d + 1) e100 ?_
    refine wl_callV1 d_Mod_reads_104 lc_Mod_isLetter lv_Mod_171 rfl sh_312 rfl rfl ⟨rfl, rfl⟩ ⟨by decide, by decide⟩ ?_
    refine s_Mod_isLetter (d := d) rfl ?_
    refine wc_eq 123 d_Mod_reads_107 rfl (fun h107 => ?_) (fun h107 => ?_)
    · cases e90
      exact k97 h107
    · cases e90
      exact k93 h107
theorem s_Mod_reads {M : mM} {M' : mM} (h : F_Mod_reads z M = some M') (hq : Q none (lay M')) : Sp X (d + 2) f_Mod_reads [.ref 312] (lay M) Q := by
  refine Sp_of (by decide) rfl (Nat.le_of_ble_eq_true rfl) ?_
  obtain ⟨M45, e111, h⟩ := ob1_some h
  refine l_Mod_reads_1 ?_ _ _ _ e111
  intro u1
  refine wp_aload_n d_Mod_reads_39 rfl rfl ?_
  refine wp_aload_n d_Mod_reads_40 rfl rfl ?_
  refine wl_getI d_Mod_reads_41 lf_Mod_156 sh_312 rfl rfl ?_
  refine wl_put d_Mod_reads_44 lp_Mod_162 sh_312 rfl ⟨rfl, rfl⟩ ?_
  obtain ⟨M46, e47, h⟩ := ob1_some h
  refine wx_M e47 ?_
  refine wp_aload_n d_Mod_reads_47 rfl rfl ?_
  refine wp_iconst d_Mod_reads_48 (v := nI 1) rfl ?_
  refine wl_put d_Mod_reads_49 lp_Mod_165 sh_312 rfl ⟨rfl, rfl⟩ ?_
  obtain ⟨M48, e49, h⟩ := ob1_some h
  refine wx_M e49 ?_
  refine wp_aload_n d_Mod_reads_52 rfl rfl ?_
  refine wp_aload_n d_Mod_reads_53 rfl rfl ?_
  refine wl_getI d_Mod_reads_54 lf_Mod_156 sh_312 rfl rfl ?_
  obtain ⟨v50, e51, h⟩ := ob1_some h
  refine wl_callV1 d_Mod_reads_57 lc_Mod_raw lv_Mod_159 rfl sh_312 rfl rfl ⟨rfl, rfl⟩ ⟨by decide, by decide⟩ ?_
  refine s_Mod_raw (d := d + 1) e51 ?_
  refine wp_istore_n d_Mod_reads_60 rfl (by decide) ?_
  refine wp_iload_n d_Mod_reads_61 rfl rfl ?_
  refine wp_iconst d_Mod_reads_62 (v := (-1)) rfl ?_
  refine wq_icmp_ne 72 d_Mod_reads_63 rfl (fun h63 => ?_) (fun h63 => ?_)
  · replace h := inn h h63
    refine wp_aload_n d_Mod_reads_72 rfl rfl ?_
    refine wp_aload_n d_Mod_reads_73 rfl rfl ?_
    refine wl_getI d_Mod_reads_74 lf_Mod_156 sh_312 rfl rfl ?_
    refine wp_iconst d_Mod_reads_77 (v := nI 1) rfl ?_
    refine wp_iadd d_Mod_reads_78 ?_
    refine wl_put d_Mod_reads_79 lp_Mod_156 sh_312 rfl ⟨rfl, rfl⟩ ?_
    obtain ⟨M52, e53, h⟩ := ob1_some h
    refine wx_M e53 ?_
    refine wp_aload_n d_Mod_reads_82 rfl rfl ?_
    refine wp_iload_n d_Mod_reads_83 rfl rfl ?_
    refine wl_put d_Mod_reads_84 lp_Mod_168 sh_312 rfl ⟨rfl, rfl⟩ ?_
    obtain ⟨M54, e55, h⟩ := ob1_some h
    refine wx_M e55 ?_
    refine wp_aload_n d_Mod_reads_87 rfl rfl ?_
    refine wp_iload_n d_Mod_reads_88 rfl rfl ?_
    refine wl_callV1 d_Mod_reads_89 lc_Mod_isLetter lv_Mod_171 rfl sh_312 rfl rfl ⟨rfl, rfl⟩ ⟨by decide, by decide⟩ ?_
    refine s_Mod_isLetter (d := d) rfl ?_
    refine wc_eq 155 d_Mod_reads_92 rfl (fun h92 => ?_) (fun h92 => ?_)
    · replace h := inn h h92
      refine wp_aload_n d_Mod_reads_155 rfl rfl ?_
      refine wp_iload_n d_Mod_reads_156 rfl rfl ?_
      refine wl_callV1 d_Mod_reads_157 lc_Mod_isDigit lv_Mod_178 rfl sh_312 rfl rfl ⟨rfl, rfl⟩ ⟨by decide, by decide⟩ ?_
      refine s_Mod_isDigit (d := d) rfl ?_
      refine wc_eq 260 d_Mod_reads_160 rfl (fun h160 => ?_) (fun h160 => ?_)
      · replace h := inn h h160
        refine wp_aload_n d_Mod_reads_260 rfl rfl ?_
        refine wp_iload_n d_Mod_reads_261 rfl rfl ?_
        refine wl_callV1 d_Mod_reads_262 lc_Mod_isMarkSign lv_Mod_181 rfl sh_312 rfl rfl ⟨rfl, rfl⟩ ⟨by decide, by decide⟩ ?_
        refine s_Mod_isMarkSign (d := d + 1) rfl ?_
        refine wc_eq 273 d_Mod_reads_265 rfl (fun h265 => ?_) (fun h265 => ?_)
        · replace h := inn h h265
          cases h
          exact wp_ret d_Mod_reads_273 rfl rfl hq
        · replace h := ip h h265
          refine wp_aload_n d_Mod_reads_268 rfl rfl ?_
          refine wp_iconst d_Mod_reads_269 (v := nI 4) rfl ?_
          refine wl_put d_Mod_reads_270 lp_Mod_165 sh_312 rfl ⟨rfl, rfl⟩ ?_
          obtain ⟨M56, e57, h⟩ := ob1_some h
          refine wx_M e57 ?_
          cases h
          exact wp_ret d_Mod_reads_273 rfl rfl hq
      · replace h := ip h h160
        refine wp_aload_n d_Mod_reads_163 rfl rfl ?_
        refine wp_iload_n d_Mod_reads_164 rfl rfl ?_
        refine wp_bipush d_Mod_reads_165 (v := nI 48) rfl ?_
        refine wp_isub d_Mod_reads_167 ?_
        refine wl_put d_Mod_reads_168 lp_Mod_168 sh_312 rfl ⟨rfl, rfl⟩ ?_
        obtain ⟨M58, e59, h⟩ := ob1_some h
        refine wx_M e59 ?_
        obtain ⟨M83, e86, h⟩ := ob1_some h
        refine l_Mod_reads_2 ?_ _ _ e86
        refine wp_aload_n d_Mod_reads_239 rfl rfl ?_
        refine wl_getI d_Mod_reads_240 lf_Mod_156 sh_312 rfl rfl ?_
        refine wp_aload_n d_Mod_reads_243 rfl rfl ?_
        refine wl_getI d_Mod_reads_244 lf_Mod_162 sh_312 rfl rfl ?_
        refine wp_isub d_Mod_reads_247 ?_
        refine wp_iconst d_Mod_reads_248 (v := nI 5) rfl ?_
        refine wq_icmp_ge 273 d_Mod_reads_249 rfl (fun h249 => ?_) (fun h249 => ?_)
        · replace h := inn h h249
          cases h
          exact wp_ret d_Mod_reads_273 rfl rfl hq
        · replace h := ip h h249
          refine wp_aload_n d_Mod_reads_252 rfl rfl ?_
          refine wp_iconst d_Mod_reads_253 (v := nI 3) rfl ?_
          refine wl_put d_Mod_reads_254 lp_Mod_165 sh_312 rfl ⟨rfl, rfl⟩ ?_
          obtain ⟨M84, e85, h⟩ := ob1_some h
          refine wx_M e85 ?_
          refine wp_goto 273 d_Mod_reads_257 rfl ?_
          cases h
          exact wp_ret d_Mod_reads_273 rfl rfl hq
    · replace h := ip h h92
      obtain ⟨M101, e108, h⟩ := ob1_some h
      refine l_Mod_reads_3 ?_ _ _ e108
      refine wp_aload_n d_Mod_reads_123 rfl rfl ?_
      refine wp_aload_n d_Mod_reads_124 rfl rfl ?_
      refine wp_aload_n d_Mod_reads_125 rfl rfl ?_
      refine wl_getI d_Mod_reads_126 lf_Mod_162 sh_312 rfl rfl ?_
      refine wp_aload_n d_Mod_reads_129 rfl rfl ?_
      refine wl_getI d_Mod_reads_130 lf_Mod_156 sh_312 rfl rfl ?_
      obtain ⟨v102, e103, h⟩ := ob1_some h
      refine wl_callV2 d_Mod_reads_133 lc_Mod_wordAt lv_Mod_174 rfl sh_312 rfl rfl ⟨rfl, rfl⟩ ⟨by decide, by decide⟩ ?_
      refine s_Mod_wordAt (d := d + 1) e103 ?_
      refine wl_put d_Mod_reads_136 lp_Mod_168 sh_312 rfl ⟨rfl, rfl⟩ ?_
      obtain ⟨M104, e105, h⟩ := ob1_some h
      refine wx_M e105 ?_
      refine wp_aload_n d_Mod_reads_139 rfl rfl ?_
      refine wl_getI d_Mod_reads_140 lf_Mod_168 sh_312 rfl rfl ?_
      refine wp_iconst d_Mod_reads_143 (v := (-1)) rfl ?_
      refine wq_icmp_eq 273 d_Mod_reads_144 rfl (fun h144 => ?_) (fun h144 => ?_)
      · replace h := inn h (fun z => z h144)
        cases h
        exact wp_ret d_Mod_reads_273 rfl rfl hq
      · replace h := ip h h144
        refine wp_aload_n d_Mod_reads_147 rfl rfl ?_
        refine wp_iconst d_Mod_reads_148 (v := nI 2) rfl ?_
        refine wl_put d_Mod_reads_149 lp_Mod_165 sh_312 rfl ⟨rfl, rfl⟩ ?_
        obtain ⟨M106, e107, h⟩ := ob1_some h
        refine wx_M e107 ?_
        refine wp_goto 273 d_Mod_reads_152 rfl ?_
        cases h
        exact wp_ret d_Mod_reads_273 rfl rfl hq
  · replace h := ip h h63
    refine wp_aload_n d_Mod_reads_66 rfl rfl ?_
    refine wp_iconst d_Mod_reads_67 (v := nI 0) rfl ?_
    refine wl_put d_Mod_reads_68 lp_Mod_165 sh_312 rfl ⟨rfl, rfl⟩ ?_
    obtain ⟨M109, e110, h⟩ := ob1_some h
    refine wx_M e110 ?_
    cases h
    exact wp_ret d_Mod_reads_71 rfl rfl hq
def F_Mod_errs (k_ : Int32) (M : mM) : Option (Int32 × mM) :=
  ob1 (some (up M 312 26 k_)) fun M1 =>
  ob1 (some (up M1 312 27 (M1 312 10))) fun M3 =>
  some ((-1), M3)
theorem s_Mod_errs {k_ : Int32} {M : mM} {r : Int32} {M' : mM} (h : F_Mod_errs k_ M = some (r, M')) (hq : Q (some (.int r)) (lay M')) : Sp X d f_Mod_errs [.ref 312, .int k_] (lay M) Q := by
  refine Sp_of (by decide) rfl (Nat.le_of_ble_eq_true rfl) ?_
  refine wp_aload_n d_Mod_errs_0 rfl rfl ?_
  refine wp_iload_n d_Mod_errs_1 rfl rfl ?_
  refine wl_put d_Mod_errs_2 lp_Mod_184 sh_312 rfl ⟨rfl, rfl⟩ ?_
  obtain ⟨M1, e2, h⟩ := ob1_some h
  refine wx_M e2 ?_
  refine wp_aload_n d_Mod_errs_5 rfl rfl ?_
  refine wp_aload_n d_Mod_errs_6 rfl rfl ?_
  refine wl_getI d_Mod_errs_7 lf_Mod_162 sh_312 rfl rfl ?_
  refine wl_put d_Mod_errs_10 lp_Mod_187 sh_312 rfl ⟨rfl, rfl⟩ ?_
  obtain ⟨M3, e4, h⟩ := ob1_some h
  refine wx_M e4 ?_
  refine wp_iconst d_Mod_errs_13 (v := (-1)) rfl ?_
  cases h
  exact wp_iret d_Mod_errs_14 rfl rfl rfl hq
def F_Mod_isWord (w_ : Int32) (M : mM) : Bool :=
  decide (((M 312 11) = (nI 2) ∧ (M 312 12) = w_))
theorem s_Mod_isWord {w_ : Int32} {M : mM} {r : Bool} (h : F_Mod_isWord w_ M = r) (hq : Q (some (.int (bI r))) (lay M)) : Sp X d f_Mod_isWord [.ref 312, .int w_] (lay M) Q := by
  refine Sp_of (by decide) rfl (Nat.le_of_ble_eq_true rfl) ?_
  have k1 : wp X d f_Mod_isWord (0, 0) 21 [.ref 312, .int w_] [.int (bI (decide (((M 312 11) = (nI 2) ∧ (M 312 12) = w_))))] (lay M) Q := by
    cases h
    exact wb_iret d_Mod_isWord_21 rfl rfl hq
  refine wp_aload_n d_Mod_isWord_0 rfl rfl ?_
  refine wl_getI d_Mod_isWord_1 lf_Mod_165 sh_312 rfl rfl ?_
  refine wp_iconst d_Mod_isWord_4 (v := nI 2) rfl ?_
  refine wq_icmp_ne 20 d_Mod_isWord_5 rfl (fun h5 => ?_) (fun h5 => ?_)
  · refine wp_iconst d_Mod_isWord_20 (v := nI 0) rfl ?_
    exact wj_f (fun z => h5 z.1) (k1)
  · refine wp_aload_n d_Mod_isWord_8 rfl rfl ?_
    refine wl_getI d_Mod_isWord_9 lf_Mod_168 sh_312 rfl rfl ?_
    refine wp_iload_n d_Mod_isWord_12 rfl rfl ?_
    refine wq_icmp_ne 20 d_Mod_isWord_13 rfl (fun h13 => ?_) (fun h13 => ?_)
    · refine wp_iconst d_Mod_isWord_20 (v := nI 0) rfl ?_
      exact wj_f (fun z => h13 z.2) (k1)
    · refine wp_iconst d_Mod_isWord_16 (v := nI 1) rfl ?_
      refine wp_goto 21 d_Mod_isWord_17 rfl ?_
      exact wj_t ⟨h5, h13⟩ (k1)
def F_Mod_isSign (c_ : Int32) (M : mM) : Bool :=
  decide (((M 312 11) = (nI 4) ∧ (M 312 12) = c_))
theorem s_Mod_isSign {c_ : Int32} {M : mM} {r : Bool} (h : F_Mod_isSign c_ M = r) (hq : Q (some (.int (bI r))) (lay M)) : Sp X d f_Mod_isSign [.ref 312, .int c_] (lay M) Q := by
  refine Sp_of (by decide) rfl (Nat.le_of_ble_eq_true rfl) ?_
  have k1 : wp X d f_Mod_isSign (0, 0) 21 [.ref 312, .int c_] [.int (bI (decide (((M 312 11) = (nI 4) ∧ (M 312 12) = c_))))] (lay M) Q := by
    cases h
    exact wb_iret d_Mod_isSign_21 rfl rfl hq
  refine wp_aload_n d_Mod_isSign_0 rfl rfl ?_
  refine wl_getI d_Mod_isSign_1 lf_Mod_165 sh_312 rfl rfl ?_
  refine wp_iconst d_Mod_isSign_4 (v := nI 4) rfl ?_
  refine wq_icmp_ne 20 d_Mod_isSign_5 rfl (fun h5 => ?_) (fun h5 => ?_)
  · refine wp_iconst d_Mod_isSign_20 (v := nI 0) rfl ?_
    exact wj_f (fun z => h5 z.1) (k1)
  · refine wp_aload_n d_Mod_isSign_8 rfl rfl ?_
    refine wl_getI d_Mod_isSign_9 lf_Mod_168 sh_312 rfl rfl ?_
    refine wp_iload_n d_Mod_isSign_12 rfl rfl ?_
    refine wq_icmp_ne 20 d_Mod_isSign_13 rfl (fun h13 => ?_) (fun h13 => ?_)
    · refine wp_iconst d_Mod_isSign_20 (v := nI 0) rfl ?_
      exact wj_f (fun z => h13 z.2) (k1)
    · refine wp_iconst d_Mod_isSign_16 (v := nI 1) rfl ?_
      refine wp_goto 21 d_Mod_isSign_17 rfl ?_
      exact wj_t ⟨h5, h13⟩ (k1)
def F_Mod_emits (what_ : Int32) (v_ : Int32) (M : mM) : Option mM :=
  ob1 (wa M 324 1200 ((nI 800) + (M 312 22)) what_) fun M2 =>
  ob1 (wa M2 325 1200 ((nI 800) + (M2 312 22)) v_) fun M4 =>
  ob1 (some (up M4 312 22 ((M4 312 22) + (nI 1)))) fun M5 =>
  some M5
theorem s_Mod_emits {what_ : Int32} {v_ : Int32} {M : mM} {M' : mM} (h : F_Mod_emits what_ v_ M = some M') (hq : Q none (lay M')) : Sp X d f_Mod_emits [.ref 312, .int what_, .int v_] (lay M) Q := by
  refine Sp_of (by decide) rfl (Nat.le_of_ble_eq_true rfl) ?_
  refine wp_aload_n d_Mod_emits_0 rfl rfl ?_
  refine wl_getR d_Mod_emits_1 lf_Mod_43 sh_312 rfl ?_
  refine wp_sipush d_Mod_emits_4 (v := nI 800) rfl ?_
  refine wp_aload_n d_Mod_emits_7 rfl rfl ?_
  refine wl_getI d_Mod_emits_8 lf_Mod_190 sh_312 rfl rfl ?_
  refine wp_iadd d_Mod_emits_11 ?_
  refine wp_iload_n d_Mod_emits_12 rfl rfl ?_
  obtain ⟨M2, e1, h⟩ := ob1_some h
  refine wa_ast d_Mod_emits_13 sh_324 e1 ?_
  refine wp_aload_n d_Mod_emits_14 rfl rfl ?_
  refine wl_getR d_Mod_emits_15 lf_Mod_46 sh_312 rfl ?_
  refine wp_sipush d_Mod_emits_18 (v := nI 800) rfl ?_
  refine wp_aload_n d_Mod_emits_21 rfl rfl ?_
  refine wl_getI d_Mod_emits_22 lf_Mod_190 sh_312 rfl rfl ?_
  refine wp_iadd d_Mod_emits_25 ?_
  refine wp_iload_n d_Mod_emits_26 rfl rfl ?_
  obtain ⟨M4, e3, h⟩ := ob1_some h
  refine wa_ast d_Mod_emits_27 sh_325 e3 ?_
  refine wp_aload_n d_Mod_emits_28 rfl rfl ?_
  refine wp_aload_n d_Mod_emits_29 rfl rfl ?_
  refine wl_getI d_Mod_emits_30 lf_Mod_190 sh_312 rfl rfl ?_
  refine wp_iconst d_Mod_emits_33 (v := nI 1) rfl ?_
  refine wp_iadd d_Mod_emits_34 ?_
  refine wl_put d_Mod_emits_35 lp_Mod_190 sh_312 rfl ⟨rfl, rfl⟩ ?_
  obtain ⟨M5, e6, h⟩ := ob1_some h
  refine wx_M e6 ?_
  cases h
  exact wp_ret d_Mod_emits_38 rfl rfl hq
def F_Mod_canAsk (word_ : Int32) : Bool :=
  F_Mod_isIn word_ (nI 7) (nI 17)
theorem s_Mod_canAsk {word_ : Int32} {M : mM} {r : Bool} (h : F_Mod_canAsk word_ = r) (hq : Q (some (.int (bI r))) (lay M)) : Sp X (d + 1) f_Mod_canAsk [.ref 312, .int word_] (lay M) Q := by
  refine Sp_of (by decide) rfl (Nat.le_of_ble_eq_true rfl) ?_
  refine wp_aload_n d_Mod_canAsk_0 rfl rfl ?_
  refine wp_iload_n d_Mod_canAsk_1 rfl rfl ?_
  refine wp_bipush d_Mod_canAsk_2 (v := nI 7) rfl ?_
  refine wp_bipush d_Mod_canAsk_4 (v := nI 17) rfl ?_
  refine wl_callV3 d_Mod_canAsk_6 lc_Mod_isIn lv_Mod_135 rfl sh_312 rfl rfl ⟨rfl, rfl⟩ ⟨by decide, by decide⟩ ?_
  refine s_Mod_isIn (d := d) rfl ?_
  cases h
  exact wb_iret d_Mod_canAsk_9 rfl rfl hq
def F_Mod_readUnit (z : Nat) (M : mM) : Option (Int32 × mM) :=
  ob1 (some (decide (((M 312 11) = (nI 2) ∧ (F_Mod_canAsk (M 312 12)) = true)))) fun x2 =>
  if (¬ (x2 = true) ∧ ¬ ((M 312 11) = (nI 3))) then
  ob2 (F_Mod_errs (nI 1) M) fun v12 M13 =>
  some (v12, M13)
  else
  ob1 (F_Mod_emits (if x2 = true then nI 1 else nI 0) (if x2 = true then (M 312 12) - (nI 7) else M 312 12) M) fun M8 =>
  ob1 (F_Mod_reads z M8) fun M10 =>
  some (nI 0, M10)
theorem s_Mod_readUnit {M : mM} {r : Int32} {M' : mM} (h : F_Mod_readUnit z M = some (r, M')) (hq : Q (some (.int r)) (lay M')) : Sp X (d + 3) f_Mod_readUnit [.ref 312] (lay M) Q := by
  refine Sp_of (by decide) rfl (Nat.le_of_ble_eq_true rfl) ?_
  have k1 : ∀ u1 : Value, wp X (d + 3) f_Mod_readUnit (0, 0) 24 [.ref 312, u1] [.int (bI (decide (((M 312 11) = (nI 2) ∧ (F_Mod_canAsk (M 312 12)) = true))))] (lay M) Q := by
    intro u1
    obtain ⟨x2, e3, h⟩ := ob1_some h
    refine wx_bool e3 ?_
    refine wp_istore_n d_Mod_readUnit_24 rfl (by decide) ?_
    have k4 : ¬ (¬ (x2 = true) ∧ ¬ ((M 312 11) = (nI 3))) → wp X (d + 3) f_Mod_readUnit (0, 0) 43 [.ref 312, .int (bI x2)] [] (lay M) Q := by
      intro x5
      replace h := inn h x5
      refine wp_aload_n d_Mod_readUnit_43 rfl rfl ?_
      have k6 : wp X (d + 3) f_Mod_readUnit (0, 0) 53 [.ref 312, .int (bI x2)] [.int (if x2 = true then nI 1 else nI 0), .ref 312] (lay M) Q := by
        have k7 : wp X (d + 3) f_Mod_readUnit (0, 0) 71 [.ref 312, .int (bI x2)] [.int (if x2 = true then (M 312 12) - (nI 7) else M 312 12), .int (if x2 = true then nI 1 else nI 0), .ref 312] (lay M) Q := by
          obtain ⟨M8, e9, h⟩ := ob1_some h
          refine wl_callV2 d_Mod_readUnit_71 lc_Mod_emits lv_Mod_199 rfl sh_312 rfl rfl ⟨rfl, rfl⟩ ⟨by decide, by decide⟩ ?_
          refine s_Mod_emits (d := d + 2) e9 ?_
          refine wp_aload_n d_Mod_readUnit_74 rfl rfl ?_
          obtain ⟨M10, e11, h⟩ := ob1_some h
          refine wl_callV0 d_Mod_readUnit_75 lc_Mod_reads lv_Mod_202 rfl sh_312 rfl rfl ⟨rfl, rfl⟩ ⟨by decide, by decide⟩ ?_
          refine s_Mod_reads (d := d) e11 ?_
          refine wp_iconst d_Mod_readUnit_78 (v := nI 0) rfl ?_
          cases h
          exact wp_iret d_Mod_readUnit_79 rfl rfl rfl hq
        refine wp_iload_n d_Mod_readUnit_53 rfl rfl ?_
        refine wc_eq 67 d_Mod_readUnit_54 rfl (fun h54 => ?_) (fun h54 => ?_)
        · refine wp_aload_n d_Mod_readUnit_67 rfl rfl ?_
          refine wl_getI d_Mod_readUnit_68 lf_Mod_168 sh_312 rfl rfl ?_
          exact wj_in h54 (k7)
        · refine wp_aload_n d_Mod_readUnit_57 rfl rfl ?_
          refine wl_getI d_Mod_readUnit_58 lf_Mod_168 sh_312 rfl rfl ?_
          refine wp_bipush d_Mod_readUnit_61 (v := nI 7) rfl ?_
          refine wp_isub d_Mod_readUnit_63 ?_
          refine wp_goto 71 d_Mod_readUnit_64 rfl ?_
          exact wj_ip h54 (k7)
      refine wp_iload_n d_Mod_readUnit_44 rfl rfl ?_
      refine wc_eq 52 d_Mod_readUnit_45 rfl (fun h45 => ?_) (fun h45 => ?_)
      · refine wp_iconst d_Mod_readUnit_52 (v := nI 0) rfl ?_
        exact wj_in h45 (k6)
      · refine wp_iconst d_Mod_readUnit_48 (v := nI 1) rfl ?_
        refine wp_goto 53 d_Mod_readUnit_49 rfl ?_
        exact wj_ip h45 (k6)
    refine wp_iload_n d_Mod_readUnit_25 rfl rfl ?_
    refine wc_ne 43 d_Mod_readUnit_26 rfl (fun h26 => ?_) (fun h26 => ?_)
    · exact k4 (fun z => (fun z => z h26) z.1)
    · refine wp_aload_n d_Mod_readUnit_29 rfl rfl ?_
      refine wl_getI d_Mod_readUnit_30 lf_Mod_165 sh_312 rfl rfl ?_
      refine wp_iconst d_Mod_readUnit_33 (v := nI 3) rfl ?_
      refine wq_icmp_eq 43 d_Mod_readUnit_34 rfl (fun h34 => ?_) (fun h34 => ?_)
      · exact k4 (fun z => (fun z => z h34) z.2)
      · replace h := ip h ⟨h26, h34⟩
        refine wp_aload_n d_Mod_readUnit_37 rfl rfl ?_
        refine wp_iconst d_Mod_readUnit_38 (v := nI 1) rfl ?_
        obtain ⟨v12, M13, e14, h⟩ := ob2_some h
        refine wl_callV1 d_Mod_readUnit_39 lc_Mod_errs lv_Mod_196 rfl sh_312 rfl rfl ⟨rfl, rfl⟩ ⟨by decide, by decide⟩ ?_
        refine s_Mod_errs (d := d + 2) e14 ?_
        cases h
        exact wp_iret d_Mod_readUnit_42 rfl rfl rfl hq
  refine wp_aload_n d_Mod_readUnit_0 rfl rfl ?_
  refine wl_getI d_Mod_readUnit_1 lf_Mod_165 sh_312 rfl rfl ?_
  refine wp_iconst d_Mod_readUnit_4 (v := nI 2) rfl ?_
  refine wq_icmp_ne 23 d_Mod_readUnit_5 rfl (fun h5 => ?_) (fun h5 => ?_)
  · refine wp_iconst d_Mod_readUnit_23 (v := nI 0) rfl ?_
    exact wj_f (fun z => h5 z.1) (k1 _)
  · refine wp_aload_n d_Mod_readUnit_8 rfl rfl ?_
    refine wp_aload_n d_Mod_readUnit_9 rfl rfl ?_
    refine wl_getI d_Mod_readUnit_10 lf_Mod_168 sh_312 rfl rfl ?_
    refine wl_callV1 d_Mod_readUnit_13 lc_Mod_canAsk lv_Mod_193 rfl sh_312 rfl rfl ⟨rfl, rfl⟩ ⟨by decide, by decide⟩ ?_
    refine s_Mod_canAsk (d := d + 1) rfl ?_
    refine wc_eq 23 d_Mod_readUnit_16 rfl (fun h16 => ?_) (fun h16 => ?_)
    · refine wp_iconst d_Mod_readUnit_23 (v := nI 0) rfl ?_
      exact wj_f (fun z => h16 z.2) (k1 _)
    · refine wp_iconst d_Mod_readUnit_19 (v := nI 1) rfl ?_
      refine wp_goto 24 d_Mod_readUnit_20 rfl ?_
      exact wj_t ⟨h5, h16⟩ (k1 _)
def L_Mod_readProduct_1 (z : Nat) (kt : mM → Option (Int32 × mM)) : Nat → mM → Option (Int32 × mM)
  | 0, _ => none
  | n + 1, M =>
    if ((F_Mod_isSign (nI 42) M) = true ∨ (F_Mod_isSign (nI 47) M) = true) then
    ob1 (F_Mod_reads z M) fun M13 =>
    if (¬ ((F_Mod_isSign (nI 42) M) = true) ∧ ¬ ((M13 312 11) = (nI 3))) then
    ob2 (F_Mod_errs (nI 1) M13) fun v38 M39 =>
    some (v38, M39)
    else
    if (¬ ((F_Mod_isSign (nI 42) M) = true) ∧ (M13 312 12) = (nI 0)) then
    ob2 (F_Mod_errs (nI 2) M13) fun v35 M36 =>
    some (v35, M36)
    else
    ob2 (ob2 (F_Mod_readUnit z M13) fun v32 M33 =>
    some (decide (v32 = (-1)), M33)) fun x19 M21 =>
    if x19 = true then
    some ((-1), M21)
    else
    ob1 (F_Mod_emits (if (F_Mod_isSign (nI 42) M) = true then nI 4 else nI 5) (nI 0) M21) fun M30 =>
    L_Mod_readProduct_1 z kt n M30
    else
    kt M
def F_Mod_readProduct (z : Nat) (M : mM) : Option (Int32 × mM) :=
  ob2 (ob2 (F_Mod_readUnit z M) fun v42 M43 =>
  some (decide (v42 = (-1)), M43)) fun x1 M3 =>
  if x1 = true then
  some ((-1), M3)
  else
  L_Mod_readProduct_1 z (fun (M41 : mM) =>
  some (nI 0, M41)) z M3
theorem l_Mod_readProduct_1 {kt : mM → Option (Int32 × mM)}  {r : Int32} {M' : mM} (hq : Q (some (.int r)) (lay M')) (K : ∀ (N1 : mM) (u1 : Value), kt  N1 = some (r, M') → wp X (d + 4) f_Mod_readProduct (0, 0) 101 [.ref 312, u1] [] (lay N1) Q) : ∀ (n : Nat)  (M : mM) (u1 : Value), L_Mod_readProduct_1 z kt n M = some (r, M') → wp X (d + 4) f_Mod_readProduct (0, 0) 10 [.ref 312, u1] [] (lay M) Q := by
  intro n
  induction n with
  | zero => intro M u1 h; exact nn h
  | succ n ih =>
    intro M u1 h
    have k11 : ∀ u1 : Value, ((F_Mod_isSign (nI 42) M) = true ∨ (F_Mod_isSign (nI 47) M) = true) → wp X (d + 4) f_Mod_readProduct (0, 0) 28 [.ref 312, u1] [] (lay M) Q := by
      intro u1 x12
      replace h := ip h x12
      refine wp_aload_n d_Mod_readProduct_28 rfl rfl ?_
      refine wp_bipush d_Mod_readProduct_29 (v := nI 42) rfl ?_
      refine wl_callV1 d_Mod_readProduct_31 lc_Mod_isSign lv_Mod_209 rfl sh_312 rfl rfl ⟨rfl, rfl⟩ ⟨by decide, by decide⟩ ?_
      refine s_Mod_isSign (d := d + 3) rfl ?_
      refine wp_istore_n d_Mod_readProduct_34 rfl (by decide) ?_
      refine wp_aload_n d_Mod_readProduct_35 rfl rfl ?_
      obtain ⟨M13, e14, h⟩ := ob1_some h
      refine wl_callV0 d_Mod_readProduct_36 lc_Mod_reads lv_Mod_202 rfl sh_312 rfl rfl ⟨rfl, rfl⟩ ⟨by decide, by decide⟩ ?_
      refine s_Mod_reads (d := d + 1) e14 ?_
      have k15 : ¬ (¬ ((F_Mod_isSign (nI 42) M) = true) ∧ ¬ ((M13 312 11) = (nI 3))) → wp X (d + 4) f_Mod_readProduct (0, 0) 57 [.ref 312, .int (bI (F_Mod_isSign (nI 42) M))] [] (lay M13) Q := by
        intro x16
        replace h := inn h x16
        have k17 : ¬ (¬ ((F_Mod_isSign (nI 42) M) = true) ∧ (M13 312 12) = (nI 0)) → wp X (d + 4) f_Mod_readProduct (0, 0) 74 [.ref 312, .int (bI (F_Mod_isSign (nI 42) M))] [] (lay M13) Q := by
          intro x18
          replace h := inn h x18
          obtain ⟨x19, M21, e20, h⟩ := ob2_some h
          have k25 : x19 = true → wp X (d + 4) f_Mod_readProduct (0, 0) 82 [.ref 312, .int (bI (F_Mod_isSign (nI 42) M))] [] (lay M21) Q := by
            intro x26
            replace h := ip h x26
            refine wp_iconst d_Mod_readProduct_82 (v := (-1)) rfl ?_
            cases h
            exact wp_iret d_Mod_readProduct_83 rfl rfl rfl hq
          have k27 : ¬ x19 = true → wp X (d + 4) f_Mod_readProduct (0, 0) 84 [.ref 312, .int (bI (F_Mod_isSign (nI 42) M))] [] (lay M21) Q := by
            intro x28
            replace h := inn h x28
            refine wp_aload_n d_Mod_readProduct_84 rfl rfl ?_
            have k29 : wp X (d + 4) f_Mod_readProduct (0, 0) 94 [.ref 312, .int (bI (F_Mod_isSign (nI 42) M))] [.int (if (F_Mod_isSign (nI 42) M) = true then nI 4 else nI 5), .ref 312] (lay M21) Q := by
              refine wp_iconst d_Mod_readProduct_94 (v := nI 0) rfl ?_
              obtain ⟨M30, e31, h⟩ := ob1_some h
              refine wl_callV2 d_Mod_readProduct_95 lc_Mod_emits lv_Mod_199 rfl sh_312 rfl rfl ⟨rfl, rfl⟩ ⟨by decide, by decide⟩ ?_
              refine s_Mod_emits (d := d + 3) e31 ?_
              refine wp_goto 10 d_Mod_readProduct_98 rfl ?_
              exact ih _ _ h
            refine wp_iload_n d_Mod_readProduct_85 rfl rfl ?_
            refine wc_eq 93 d_Mod_readProduct_86 rfl (fun h86 => ?_) (fun h86 => ?_)
            · refine wp_iconst d_Mod_readProduct_93 (v := nI 5) rfl ?_
              exact wj_in h86 (k29)
            · refine wp_iconst d_Mod_readProduct_89 (v := nI 4) rfl ?_
              refine wp_goto 94 d_Mod_readProduct_90 rfl ?_
              exact wj_ip h86 (k29)
          refine wp_aload_n d_Mod_readProduct_74 rfl rfl ?_
          obtain ⟨v32, M33, e34, e20⟩ := ob2_some e20
          refine wl_callV0 d_Mod_readProduct_75 lc_Mod_readUnit lv_Mod_205 rfl sh_312 rfl rfl ⟨rfl, rfl⟩ ⟨by decide, by decide⟩ ?_
          refine s_Mod_readUnit (d := d) e34 ?_
          refine wp_iconst d_Mod_readProduct_78 (v := (-1)) rfl ?_
          refine wq_icmp_ne 84 d_Mod_readProduct_79 rfl (fun h79 => ?_) (fun h79 => ?_)
          · cases e20
            exact k27 (fun z => h79 (of_decide_eq_true z))
          · cases e20
            exact k25 (decide_eq_true h79)
        refine wp_iload_n d_Mod_readProduct_57 rfl rfl ?_
        refine wc_ne 74 d_Mod_readProduct_58 rfl (fun h58 => ?_) (fun h58 => ?_)
        · exact k17 (fun z => (fun z => z h58) z.1)
        · refine wp_aload_n d_Mod_readProduct_61 rfl rfl ?_
          refine wl_getI d_Mod_readProduct_62 lf_Mod_168 sh_312 rfl rfl ?_
          refine wz_ne 74 d_Mod_readProduct_65 rfl (fun h65 => ?_) (fun h65 => ?_)
          · exact k17 (fun z => h65 z.2)
          · replace h := ip h ⟨h58, h65⟩
            refine wp_aload_n d_Mod_readProduct_68 rfl rfl ?_
            refine wp_iconst d_Mod_readProduct_69 (v := nI 2) rfl ?_
            obtain ⟨v35, M36, e37, h⟩ := ob2_some h
            refine wl_callV1 d_Mod_readProduct_70 lc_Mod_errs lv_Mod_196 rfl sh_312 rfl rfl ⟨rfl, rfl⟩ ⟨by decide, by decide⟩ ?_
            refine s_Mod_errs (d := d + 3) e37 ?_
            cases h
            exact wp_iret d_Mod_readProduct_73 rfl rfl rfl hq
      refine wp_iload_n d_Mod_readProduct_39 rfl rfl ?_
      refine wc_ne 57 d_Mod_readProduct_40 rfl (fun h40 => ?_) (fun h40 => ?_)
      · exact k15 (fun z => (fun z => z h40) z.1)
      · refine wp_aload_n d_Mod_readProduct_43 rfl rfl ?_
        refine wl_getI d_Mod_readProduct_44 lf_Mod_165 sh_312 rfl rfl ?_
        refine wp_iconst d_Mod_readProduct_47 (v := nI 3) rfl ?_
        refine wq_icmp_eq 57 d_Mod_readProduct_48 rfl (fun h48 => ?_) (fun h48 => ?_)
        · exact k15 (fun z => (fun z => z h48) z.2)
        · replace h := ip h ⟨h40, h48⟩
          refine wp_aload_n d_Mod_readProduct_51 rfl rfl ?_
          refine wp_iconst d_Mod_readProduct_52 (v := nI 1) rfl ?_
          obtain ⟨v38, M39, e40, h⟩ := ob2_some h
          refine wl_callV1 d_Mod_readProduct_53 lc_Mod_errs lv_Mod_196 rfl sh_312 rfl rfl ⟨rfl, rfl⟩ ⟨by decide, by decide⟩ ?_
          refine s_Mod_errs (d := d + 3) e40 ?_
          cases h
          exact wp_iret d_Mod_readProduct_56 rfl rfl rfl hq
    refine wp_aload_n d_Mod_readProduct_10 rfl rfl ?_
    refine wp_bipush d_Mod_readProduct_11 (v := nI 42) rfl ?_
    refine wl_callV1 d_Mod_readProduct_13 lc_Mod_isSign lv_Mod_209 rfl sh_312 rfl rfl ⟨rfl, rfl⟩ ⟨by decide, by decide⟩ ?_
    refine s_Mod_isSign (d := d + 3) rfl ?_
    refine wc_ne 28 d_Mod_readProduct_16 rfl (fun h16 => ?_) (fun h16 => ?_)
    · exact k11 _ (Or.inl h16)
    · refine wp_aload_n d_Mod_readProduct_19 rfl rfl ?_
      refine wp_bipush d_Mod_readProduct_20 (v := nI 47) rfl ?_
      refine wl_callV1 d_Mod_readProduct_22 lc_Mod_isSign lv_Mod_209 rfl sh_312 rfl rfl ⟨rfl, rfl⟩ ⟨by decide, by decide⟩ ?_
      refine s_Mod_isSign (d := d + 3) rfl ?_
      refine wc_eq 101 d_Mod_readProduct_25 rfl (fun h25 => ?_) (fun h25 => ?_)
      · replace h := inn h (fun z => z.elim h16 h25)
        exact K _ _ h
      · exact k11 _ (Or.inr h25)
theorem s_Mod_readProduct {M : mM} {r : Int32} {M' : mM} (h : F_Mod_readProduct z M = some (r, M')) (hq : Q (some (.int r)) (lay M')) : Sp X (d + 4) f_Mod_readProduct [.ref 312] (lay M) Q := by
  refine Sp_of (by decide) rfl (Nat.le_of_ble_eq_true rfl) ?_
  obtain ⟨x1, M3, e2, h⟩ := ob2_some h
  have k7 : ∀ u1 : Value, x1 = true → wp X (d + 4) f_Mod_readProduct (0, 0) 8 [.ref 312, u1] [] (lay M3) Q := by
    intro u1 x8
    replace h := ip h x8
    refine wp_iconst d_Mod_readProduct_8 (v := (-1)) rfl ?_
    cases h
    exact wp_iret d_Mod_readProduct_9 rfl rfl rfl hq
  have k9 : ∀ u1 : Value, ¬ x1 = true → wp X (d + 4) f_Mod_readProduct (0, 0) 10 [.ref 312, u1] [] (lay M3) Q := by
    intro u1 x10
    replace h := inn h x10
    refine l_Mod_readProduct_1 hq ?_ _ _ _ h
    intro M41 u1 h
    refine wp_iconst d_Mod_readProduct_101 (v := nI 0) rfl ?_
    cases h
    exact wp_iret d_Mod_readProduct_102 rfl rfl rfl hq
  refine wp_aload_n d_Mod_readProduct_0 rfl rfl ?_
  obtain ⟨v42, M43, e44, e2⟩ := ob2_some e2
  refine wl_callV0 d_Mod_readProduct_1 lc_Mod_readUnit lv_Mod_205 rfl sh_312 rfl rfl ⟨rfl, rfl⟩ ⟨by decide, by decide⟩ ?_
  refine s_Mod_readUnit (d := d) e44 ?_
  refine wp_iconst d_Mod_readProduct_4 (v := (-1)) rfl ?_
  refine wq_icmp_ne 10 d_Mod_readProduct_5 rfl (fun h5 => ?_) (fun h5 => ?_)
  · cases e2
    exact k9 _ (fun z => h5 (of_decide_eq_true z))
  · cases e2
    exact k7 _ (decide_eq_true h5)
end S1412
