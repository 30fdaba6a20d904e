/-! methods as functions: printed by program -/
section S1420
variable {X : mXs} {d z : Nat} {Q : Option Value → mH → Prop}
def L_Mod_vein_1 (z : Nat) (wing_ : Int32) : Nat → Int32 → mM → Option (mM)
  | 0, _, _ => none
  | n + 1, k_, M =>
    if k_ < (nI 8) then
    ob1 (wa M 339 16 (((nI 8) * wing_) + k_) (nI 0)) fun M28 =>
    L_Mod_vein_1 z wing_ n (k_ + nI 1) M28
    else
    some (M)
def F_Mod_vein (z : Nat) (wing_ : Int32) (from_ : Int32) (to_ : Int32) (M : mM) : Option (Int32 × mM) :=
  if ¬ ((F_Mod_isIn wing_ (nI 0) (nI 1)) = true) then
  some ((-1), M)
  else
  if from_ = (-1) then
  ob1 (wa M 338 2 wing_ (nI 0)) fun M26 =>
  ob1 (L_Mod_vein_1 z wing_ z (nI 0) M26) fun M29 =>
  some (nI 0, M29)
  else
  ob1 (if ((¬ ((F_Mod_isIn from_ (nI 0) (nI 7)) = true) ∨ ¬ ((F_Mod_isIn to_ (nI 0) (nI 7)) = true)) ∨ from_ = to_) then some (true)
  else ob1 (ra M 338 2 wing_) fun v24 =>
  some (decide (v24 = (nI 9)))) fun x1 =>
  if x1 = true then
  some ((-1), M)
  else
  ob1 (ra M 339 16 (((nI 8) * wing_) + from_)) fun v10 =>
  ob1 (wa M 339 16 (((nI 8) * wing_) + from_) (v10 ||| (jshl (nI 1) to_))) fun M12 =>
  ob1 (ra M12 339 16 (((nI 8) * wing_) + to_)) fun v14 =>
  ob1 (wa M12 339 16 (((nI 8) * wing_) + to_) (v14 ||| (jshl (nI 1) from_))) fun M16 =>
  ob1 (ra M16 338 2 wing_) fun v18 =>
  ob1 (wa M16 338 2 wing_ (v18 + (nI 1))) fun M20 =>
  ob1 (ra M20 338 2 wing_) fun v22 =>
  some (v22, M20)
theorem l_Mod_vein_1 {wing_ : Int32}  {q2 : Value} {q3 : Value} {N' : mM} (K : ∀ u4 : Value, wp X (d + 1) f_Mod_vein (0, 0) 58 [.ref 312, .int wing_, q2, q3, u4] [] (lay N') Q) : ∀ (n : Nat) (k_ : Int32) (M : mM), L_Mod_vein_1 z wing_ n k_ M = some (N') → wp X (d + 1) f_Mod_vein (0, 0) 32 [.ref 312, .int wing_, q2, q3, .int k_] [] (lay M) Q := by
  intro n
  induction n with
  | zero => intro k_ M h; exact nn h
  | succ n ih =>
    intro k_ M h
    refine wp_iload d_Mod_vein_32 rfl ?_
    refine wp_bipush d_Mod_vein_34 (v := nI 8) rfl ?_
    refine wq_icmp_ge 58 d_Mod_vein_36 rfl (fun h36 => ?_) (fun h36 => ?_)
    · replace h := inn h h36
      cases h
      exact K _
    · replace h := ip h h36
      refine wp_aload_n d_Mod_vein_39 rfl rfl ?_
      refine wl_getR d_Mod_vein_40 lf_Mod_92 sh_312 rfl ?_
      refine wp_bipush d_Mod_vein_43 (v := nI 8) rfl ?_
      refine wp_iload_n d_Mod_vein_45 rfl rfl ?_
      refine wp_imul d_Mod_vein_46 ?_
      refine wp_iload d_Mod_vein_47 rfl ?_
      refine wp_iadd d_Mod_vein_49 ?_
      refine wp_iconst d_Mod_vein_50 (v := nI 0) rfl ?_
      obtain ⟨M28, e27, h⟩ := ob1_some h
      refine wa_ast d_Mod_vein_51 sh_339 e27 ?_
      refine wp_iinc d_Mod_vein_52 (v := k_ + nI 1) rfl rfl ?_
      refine wp_goto 32 d_Mod_vein_55 rfl ?_
      exact ih _ _ h
theorem s_Mod_vein {wing_ : Int32} {from_ : Int32} {to_ : Int32} {M : mM} {r : Int32} {M' : mM} (h : F_Mod_vein z wing_ from_ to_ M = some (r, M')) (hq : Q (some (.int r)) (lay M')) : Sp X (d + 1) f_Mod_vein [.ref 312, .int wing_, .int from_, .int to_] (lay M) Q := by
  refine Sp_of (by decide) rfl (Nat.le_of_ble_eq_true rfl) ?_
  refine wp_aload_n d_Mod_vein_0 rfl rfl ?_
  refine wp_iconst d_Mod_vein_1 (v := nI 0) rfl ?_
  refine wl_putC d_Mod_vein_2 lp_Mod_107 sh_312 rfl ⟨rfl, rfl⟩ ?_
  refine wp_aload_n d_Mod_vein_5 rfl rfl ?_
  refine wp_iload_n d_Mod_vein_6 rfl rfl ?_
  refine wp_iconst d_Mod_vein_7 (v := nI 0) rfl ?_
  refine wp_iconst d_Mod_vein_8 (v := nI 1) rfl ?_
  refine wl_callV3 d_Mod_vein_9 lc_Mod_isIn lv_Mod_135 rfl sh_312 rfl rfl ⟨rfl, rfl⟩ ⟨by decide, by decide⟩ ?_
  refine s_Mod_isIn (d := d) rfl ?_
  refine wc_ne 17 d_Mod_vein_12 rfl (fun h12 => ?_) (fun h12 => ?_)
  · replace h := inn h (fun z => z h12)
    refine wp_iload_n d_Mod_vein_17 rfl rfl ?_
    refine wp_iconst d_Mod_vein_18 (v := (-1)) rfl ?_
    refine wq_icmp_ne 60 d_Mod_vein_19 rfl (fun h19 => ?_) (fun h19 => ?_)
    · replace h := inn h h19
      obtain ⟨x1, e2, h⟩ := ob1_some h
      have k5 : ∀ u4 : Value, x1 = true → wp X (d + 1) f_Mod_vein (0, 0) 98 [.ref 312, .int wing_, .int from_, .int to_, u4] [] (lay M) Q := by
        intro u4 x6
        replace h := ip h x6
        refine wp_iconst d_Mod_vein_98 (v := (-1)) rfl ?_
        cases h
        exact wp_iret d_Mod_vein_99 rfl rfl rfl hq
      have k7 : ∀ u4 : Value, ¬ x1 = true → wp X (d + 1) f_Mod_vein (0, 0) 100 [.ref 312, .int wing_, .int from_, .int to_, u4] [] (lay M) Q := by
        intro u4 x8
        replace h := inn h x8
        refine wp_aload_n d_Mod_vein_100 rfl rfl ?_
        refine wl_getR d_Mod_vein_101 lf_Mod_92 sh_312 rfl ?_
        refine wp_bipush d_Mod_vein_104 (v := nI 8) rfl ?_
        refine wp_iload_n d_Mod_vein_106 rfl rfl ?_
        refine wp_imul d_Mod_vein_107 ?_
        refine wp_iload_n d_Mod_vein_108 rfl rfl ?_
        refine wp_iadd d_Mod_vein_109 ?_
        refine wp_aload_n d_Mod_vein_110 rfl rfl ?_
        refine wl_getR d_Mod_vein_111 lf_Mod_92 sh_312 rfl ?_
        refine wp_bipush d_Mod_vein_114 (v := nI 8) rfl ?_
        refine wp_iload_n d_Mod_vein_116 rfl rfl ?_
        refine wp_imul d_Mod_vein_117 ?_
        refine wp_iload_n d_Mod_vein_118 rfl rfl ?_
        refine wp_iadd d_Mod_vein_119 ?_
        obtain ⟨v10, e9, h⟩ := ob1_some h
        refine wa_ald d_Mod_vein_120 sh_339 e9 ?_
        refine wp_iconst d_Mod_vein_121 (v := nI 1) rfl ?_
        refine wp_iload_n d_Mod_vein_122 rfl rfl ?_
        refine wp_ishl d_Mod_vein_123 ?_
        refine wp_ior d_Mod_vein_124 ?_
        obtain ⟨M12, e11, h⟩ := ob1_some h
        refine wa_ast d_Mod_vein_125 sh_339 e11 ?_
        refine wp_aload_n d_Mod_vein_126 rfl rfl ?_
        refine wl_getR d_Mod_vein_127 lf_Mod_92 sh_312 rfl ?_
        refine wp_bipush d_Mod_vein_130 (v := nI 8) rfl ?_
        refine wp_iload_n d_Mod_vein_132 rfl rfl ?_
        refine wp_imul d_Mod_vein_133 ?_
        refine wp_iload_n d_Mod_vein_134 rfl rfl ?_
        refine wp_iadd d_Mod_vein_135 ?_
        refine wp_aload_n d_Mod_vein_136 rfl rfl ?_
        refine wl_getR d_Mod_vein_137 lf_Mod_92 sh_312 rfl ?_
        refine wp_bipush d_Mod_vein_140 (v := nI 8) rfl ?_
        refine wp_iload_n d_Mod_vein_142 rfl rfl ?_
        refine wp_imul d_Mod_vein_143 ?_
        refine wp_iload_n d_Mod_vein_144 rfl rfl ?_
        refine wp_iadd d_Mod_vein_145 ?_
        obtain ⟨v14, e13, h⟩ := ob1_some h
        refine wa_ald d_Mod_vein_146 sh_339 e13 ?_
        refine wp_iconst d_Mod_vein_147 (v := nI 1) rfl ?_
        refine wp_iload_n d_Mod_vein_148 rfl rfl ?_
        refine wp_ishl d_Mod_vein_149 ?_
        refine wp_ior d_Mod_vein_150 ?_
        obtain ⟨M16, e15, h⟩ := ob1_some h
        refine wa_ast d_Mod_vein_151 sh_339 e15 ?_
        refine wp_aload_n d_Mod_vein_152 rfl rfl ?_
        refine wl_getR d_Mod_vein_153 lf_Mod_89 sh_312 rfl ?_
        refine wp_iload_n d_Mod_vein_156 rfl rfl ?_
        refine wp_aload_n d_Mod_vein_157 rfl rfl ?_
        refine wl_getR d_Mod_vein_158 lf_Mod_89 sh_312 rfl ?_
        refine wp_iload_n d_Mod_vein_161 rfl rfl ?_
        obtain ⟨v18, e17, h⟩ := ob1_some h
        refine wa_ald d_Mod_vein_162 sh_338 e17 ?_
        refine wp_iconst d_Mod_vein_163 (v := nI 1) rfl ?_
        refine wp_iadd d_Mod_vein_164 ?_
        obtain ⟨M20, e19, h⟩ := ob1_some h
        refine wa_ast d_Mod_vein_165 sh_338 e19 ?_
        refine wp_aload_n d_Mod_vein_166 rfl rfl ?_
        refine wl_getR d_Mod_vein_167 lf_Mod_89 sh_312 rfl ?_
        refine wp_iload_n d_Mod_vein_170 rfl rfl ?_
        obtain ⟨v22, e21, h⟩ := ob1_some h
        refine wa_ald d_Mod_vein_171 sh_338 e21 ?_
        cases h
        exact wp_iret d_Mod_vein_172 rfl rfl rfl hq
      refine wp_aload_n d_Mod_vein_60 rfl rfl ?_
      refine wp_iload_n d_Mod_vein_61 rfl rfl ?_
      refine wp_iconst d_Mod_vein_62 (v := nI 0) rfl ?_
      refine wp_bipush d_Mod_vein_63 (v := nI 7) rfl ?_
      refine wl_callV3 d_Mod_vein_65 lc_Mod_isIn lv_Mod_135 rfl sh_312 rfl rfl ⟨rfl, rfl⟩ ⟨by decide, by decide⟩ ?_
      refine s_Mod_isIn (d := d) rfl ?_
      refine wc_eq 98 d_Mod_vein_68 rfl (fun h68 => ?_) (fun h68 => ?_)
      · replace e2 := ip e2 (Or.inl (Or.inl h68))
        cases e2
        exact k5 _ rfl
      · refine wp_aload_n d_Mod_vein_71 rfl rfl ?_
        refine wp_iload_n d_Mod_vein_72 rfl rfl ?_
        refine wp_iconst d_Mod_vein_73 (v := nI 0) rfl ?_
        refine wp_bipush d_Mod_vein_74 (v := nI 7) rfl ?_
        refine wl_callV3 d_Mod_vein_76 lc_Mod_isIn lv_Mod_135 rfl sh_312 rfl rfl ⟨rfl, rfl⟩ ⟨by decide, by decide⟩ ?_
        refine s_Mod_isIn (d := d) rfl ?_
        refine wc_eq 98 d_Mod_vein_79 rfl (fun h79 => ?_) (fun h79 => ?_)
        · replace e2 := ip e2 (Or.inl (Or.inr h79))
          cases e2
          exact k5 _ rfl
        · refine wp_iload_n d_Mod_vein_82 rfl rfl ?_
          refine wp_iload_n d_Mod_vein_83 rfl rfl ?_
          refine wq_icmp_eq 98 d_Mod_vein_84 rfl (fun h84 => ?_) (fun h84 => ?_)
          · replace e2 := ip e2 (Or.inr h84)
            cases e2
            exact k5 _ rfl
          · replace e2 := inn e2 (fun z => z.elim (fun z => z.elim (fun z => z h68) (fun z => z h79)) h84)
            refine wp_aload_n d_Mod_vein_87 rfl rfl ?_
            refine wl_getR d_Mod_vein_88 lf_Mod_89 sh_312 rfl ?_
            refine wp_iload_n d_Mod_vein_91 rfl rfl ?_
            obtain ⟨v24, e23, e2⟩ := ob1_some e2
            refine wa_ald d_Mod_vein_92 sh_338 e23 ?_
            refine wp_bipush d_Mod_vein_93 (v := nI 9) rfl ?_
            refine wq_icmp_ne 100 d_Mod_vein_95 rfl (fun h95 => ?_) (fun h95 => ?_)
            · cases e2
              exact k7 _ (fun z => h95 (of_decide_eq_true z))
            · cases e2
              exact k5 _ (decide_eq_true h95)
    · replace h := ip h h19
      refine wp_aload_n d_Mod_vein_22 rfl rfl ?_
      refine wl_getR d_Mod_vein_23 lf_Mod_89 sh_312 rfl ?_
      refine wp_iload_n d_Mod_vein_26 rfl rfl ?_
      refine wp_iconst d_Mod_vein_27 (v := nI 0) rfl ?_
      obtain ⟨M26, e25, h⟩ := ob1_some h
      refine wa_ast d_Mod_vein_28 sh_338 e25 ?_
      refine wp_iconst d_Mod_vein_29 (v := nI 0) rfl ?_
      refine wp_istore d_Mod_vein_30 (by decide) ?_
      obtain ⟨M29, e30, h⟩ := ob1_some h
      refine l_Mod_vein_1 ?_ _ _ _ e30
      intro u4
      refine wp_iconst d_Mod_vein_58 (v := nI 0) rfl ?_
      cases h
      exact wp_iret d_Mod_vein_59 rfl rfl rfl hq
  · replace h := ip h h12
    refine wp_iconst d_Mod_vein_15 (v := (-1)) rfl ?_
    cases h
    exact wp_iret d_Mod_vein_16 rfl rfl rfl hq
def L_Mod_isAlike_2 (z : Nat) (a_ : Int32) (M : mM) (kt : Option (Bool)) : Nat → Int32 → Option (Bool)
  | 0, _ => none
  | n + 1, b_ =>
    if b_ < a_ then
    ob1 (ob1 (ra M 339 16 a_) fun v16 =>
    ob1 (ra M 340 8 a_) fun v18 =>
    ob1 (ra M 339 16 ((nI 8) + v18)) fun v20 =>
    ob1 (ra M 340 8 b_) fun v22 =>
    some (decide (¬ ((F_Mod_has v16 b_) = (F_Mod_has v20 v22))))) fun x1 =>
    if x1 = true then
    some (false)
    else
    L_Mod_isAlike_2 z a_ M kt n (b_ + nI 1)
    else
    kt 
def L_Mod_isAlike_1 (z : Nat) (M : mM) (kt : Option (Bool)) : Nat → Int32 → Option (Bool)
  | 0, _ => none
  | n + 1, a_ =>
    if a_ < (nI 8) then
    L_Mod_isAlike_2 z a_ M (L_Mod_isAlike_1 z M kt n (a_ + nI 1)) z (nI 0)
    else
    kt 
def F_Mod_isAlike (z : Nat) (M : mM) : Option (Bool) :=
  L_Mod_isAlike_1 z M (some (true)) z (nI 0)
theorem l_Mod_isAlike_2 {a_ : Int32} {M : mM} {kt : Option (Bool)}  {r : Bool} (hq : Q (some (.int (bI r))) (lay M)) (K : ∀  (u2 : Value), kt  = some r → wp X (d + 1) f_Mod_isAlike (0, 0) 61 [.ref 312, .int a_, u2] [] (lay M) Q) : ∀ (n : Nat) (b_ : Int32), L_Mod_isAlike_2 z a_ M kt n b_ = some r → wp X (d + 1) f_Mod_isAlike (0, 0) 10 [.ref 312, .int a_, .int b_] [] (lay M) Q := by
  intro n
  induction n with
  | zero => intro b_ h; exact nn h
  | succ n ih =>
    intro b_ h
    refine wp_iload_n d_Mod_isAlike_10 rfl rfl ?_
    refine wp_iload_n d_Mod_isAlike_11 rfl rfl ?_
    refine wq_icmp_ge 61 d_Mod_isAlike_12 rfl (fun h12 => ?_) (fun h12 => ?_)
    · replace h := inn h h12
      exact K _ h
    · replace h := ip h h12
      obtain ⟨x1, e2, h⟩ := ob1_some h
      have k11 : x1 = true → wp X (d + 1) f_Mod_isAlike (0, 0) 53 [.ref 312, .int a_, .int b_] [] (lay M) Q := by
        intro x12
        replace h := ip h x12
        refine wp_iconst d_Mod_isAlike_53 (v := bI false) rfl ?_
        cases h
        exact wb_iret d_Mod_isAlike_54 rfl rfl hq
      have k13 : ¬ x1 = true → wp X (d + 1) f_Mod_isAlike (0, 0) 55 [.ref 312, .int a_, .int b_] [] (lay M) Q := by
        intro x14
        replace h := inn h x14
        refine wp_iinc d_Mod_isAlike_55 (v := b_ + nI 1) rfl rfl ?_
        refine wp_goto 10 d_Mod_isAlike_58 rfl ?_
        exact ih _ h
      refine wp_aload_n d_Mod_isAlike_15 rfl rfl ?_
      refine wp_aload_n d_Mod_isAlike_16 rfl rfl ?_
      refine wl_getR d_Mod_isAlike_17 lf_Mod_92 sh_312 rfl ?_
      refine wp_iload_n d_Mod_isAlike_20 rfl rfl ?_
      obtain ⟨v16, e15, e2⟩ := ob1_some e2
      refine wa_ald d_Mod_isAlike_21 sh_339 e15 ?_
      refine wp_iload_n d_Mod_isAlike_22 rfl rfl ?_
      refine wl_callV2 d_Mod_isAlike_23 lc_Mod_has lv_Mod_422 rfl sh_312 rfl rfl ⟨rfl, rfl⟩ ⟨by decide, by decide⟩ ?_
      refine s_Mod_has (d := d) rfl ?_
      refine wp_aload_n d_Mod_isAlike_26 rfl rfl ?_
      refine wp_aload_n d_Mod_isAlike_27 rfl rfl ?_
      refine wl_getR d_Mod_isAlike_28 lf_Mod_92 sh_312 rfl ?_
      refine wp_bipush d_Mod_isAlike_31 (v := nI 8) rfl ?_
      refine wp_aload_n d_Mod_isAlike_33 rfl rfl ?_
      refine wl_getR d_Mod_isAlike_34 lf_Mod_95 sh_312 rfl ?_
      refine wp_iload_n d_Mod_isAlike_37 rfl rfl ?_
      obtain ⟨v18, e17, e2⟩ := ob1_some e2
      refine wa_ald d_Mod_isAlike_38 sh_340 e17 ?_
      refine wp_iadd d_Mod_isAlike_39 ?_
      obtain ⟨v20, e19, e2⟩ := ob1_some e2
      refine wa_ald d_Mod_isAlike_40 sh_339 e19 ?_
      refine wp_aload_n d_Mod_isAlike_41 rfl rfl ?_
      refine wl_getR d_Mod_isAlike_42 lf_Mod_95 sh_312 rfl ?_
      refine wp_iload_n d_Mod_isAlike_45 rfl rfl ?_
      obtain ⟨v22, e21, e2⟩ := ob1_some e2
      refine wa_ald d_Mod_isAlike_46 sh_340 e21 ?_
      refine wl_callV2 d_Mod_isAlike_47 lc_Mod_has lv_Mod_422 rfl sh_312 rfl rfl ⟨rfl, rfl⟩ ⟨by decide, by decide⟩ ?_
      refine s_Mod_has (d := d) rfl ?_
      refine wbb_eq 55 d_Mod_isAlike_50 rfl (fun h50 => ?_) (fun h50 => ?_)
      · cases e2
        exact k13 (fun z => (fun z => z h50) (of_decide_eq_true z))
      · cases e2
        exact k11 (decide_eq_true h50)
theorem l_Mod_isAlike_1 {M : mM} {kt : Option (Bool)}  {r : Bool} (hq : Q (some (.int (bI r))) (lay M)) (K : ∀  (u1 u2 : Value), kt  = some r → wp X (d + 1) f_Mod_isAlike (0, 0) 67 [.ref 312, u1, u2] [] (lay M) Q) : ∀ (n : Nat) (a_ : Int32) (u2 : Value), L_Mod_isAlike_1 z M kt n a_ = some r → wp X (d + 1) f_Mod_isAlike (0, 0) 2 [.ref 312, .int a_, u2] [] (lay M) Q := by
  intro n
  induction n with
  | zero => intro a_ u2 h; exact nn h
  | succ n ih =>
    intro a_ u2 h
    refine wp_iload_n d_Mod_isAlike_2 rfl rfl ?_
    refine wp_bipush d_Mod_isAlike_3 (v := nI 8) rfl ?_
    refine wq_icmp_ge 67 d_Mod_isAlike_5 rfl (fun h5 => ?_) (fun h5 => ?_)
    · replace h := inn h h5
      exact K _ _ h
    · replace h := ip h h5
      refine wp_iconst d_Mod_isAlike_8 (v := nI 0) rfl ?_
      refine wp_istore_n d_Mod_isAlike_9 rfl (by decide) ?_
      refine l_Mod_isAlike_2 hq ?_ _ _ h
      intro u2 h
      refine wp_iinc d_Mod_isAlike_61 (v := a_ + nI 1) rfl rfl ?_
      refine wp_goto 2 d_Mod_isAlike_64 rfl ?_
      exact ih _ _ h
theorem s_Mod_isAlike {M : mM} {r : Bool} (h : F_Mod_isAlike z M = some r) (hq : Q (some (.int (bI r))) (lay M)) : Sp X (d + 1) f_Mod_isAlike [.ref 312] (lay M) Q := by
  refine Sp_of (by decide) rfl (Nat.le_of_ble_eq_true rfl) ?_
  refine wp_iconst d_Mod_isAlike_0 (v := nI 0) rfl ?_
  refine wp_istore_n d_Mod_isAlike_1 rfl (by decide) ?_
  refine l_Mod_isAlike_1 hq ?_ _ _ _ h
  intro u1 u2 h
  refine wp_iconst d_Mod_isAlike_67 (v := bI true) rfl ?_
  cases h
  exact wb_iret d_Mod_isAlike_68 rfl rfl hq
def L_Mod_goesToNextNumbering_1 (z : Nat) (M : mM) : Nat → Int32 → Option (Int32)
  | 0, _ => none
  | n + 1, i_ =>
    ob1 (if ¬ (i_ < (nI 0)) then ob1 (ra M 340 8 i_) fun v16 =>
    ob1 (ra M 340 8 (i_ + (nI 1))) fun v18 =>
    some (decide (v18 < v16))
    else some (false)) fun x5 =>
    if x5 = true then
    L_Mod_goesToNextNumbering_1 z M n (i_ - (nI 1))
    else
    some (i_)
def L_Mod_goesToNextNumbering_2 (z : Nat) (i_ : Int32) (M : mM) : Nat → Int32 → Option (Int32)
  | 0, _ => none
  | n + 1, k_ =>
    ob1 (ob1 (ra M 340 8 k_) fun v35 =>
    ob1 (ra M 340 8 i_) fun v37 =>
    some (decide (v35 < v37))) fun x24 =>
    if x24 = true then
    L_Mod_goesToNextNumbering_2 z i_ M n (k_ - (nI 1))
    else
    some (k_)
def L_Mod_goesToNextNumbering_3 (z : Nat) : Nat → Int32 → Int32 → Int32 → mM → Option (Int32 × Int32 × mM)
  | 0, _, _, _, _ => none
  | n + 1, v_, b_, a_, M =>
    if a_ < b_ then
    ob1 (ra M 340 8 a_) fun v48 =>
    ob1 (ra M 340 8 b_) fun v50 =>
    ob1 (wa M 340 8 a_ v50) fun M52 =>
    ob1 (wa M52 340 8 b_ v48) fun M54 =>
    L_Mod_goesToNextNumbering_3 z n v48 (b_ - (nI 1)) (a_ + nI 1) M54
    else
    some (v_, b_, M)
def F_Mod_goesToNextNumbering (z : Nat) (M : mM) : Option (Bool × mM) :=
  ob1 (L_Mod_goesToNextNumbering_1 z M z (nI 6)) fun i_19 =>
  if i_19 < (nI 0) then
  some (false, M)
  else
  ob1 (L_Mod_goesToNextNumbering_2 z i_19 M z (nI 7)) fun k_38 =>
  ob1 (ra M 340 8 i_19) fun v40 =>
  ob1 (ra M 340 8 k_38) fun v42 =>
  ob1 (wa M 340 8 i_19 v42) fun M44 =>
  ob1 (wa M44 340 8 k_38 v40) fun M46 =>
  ob3 (L_Mod_goesToNextNumbering_3 z z v40 (nI 7) (i_19 + (nI 1)) M46) fun v_55 b_56 M57 =>
  some (true, M57)
theorem l_Mod_goesToNextNumbering_1 {M : mM}  {i_r : Int32} (K : ∀ u2 u3 u4 u5 : Value, wp X d f_Mod_goesToNextNumbering (0, 0) 31 [.ref 312, .int i_r, u2, u3, u4, u5] [] (lay M) Q) : ∀ (n : Nat) (i_ : Int32) (u2 u3 u4 u5 : Value), L_Mod_goesToNextNumbering_1 z M n i_ = some (i_r) → wp X d f_Mod_goesToNextNumbering (0, 0) 3 [.ref 312, .int i_, u2, u3, u4, u5] [] (lay M) Q := by
  intro n
  induction n with
  | zero => intro i_ u2 u3 u4 u5 h; exact nn h
  | succ n ih =>
    intro i_ u2 u3 u4 u5 h
    obtain ⟨x5, e6, h⟩ := ob1_some h
    have k11 : ∀ u2 u3 u4 u5 : Value, x5 = true → wp X d f_Mod_goesToNextNumbering (0, 0) 24 [.ref 312, .int i_, u2, u3, u4, u5] [] (lay M) Q := by
      intro u2 u3 u4 u5 x12
      replace h := ip h x12
      refine wp_iload_n d_Mod_goesToNextNumbering_24 rfl rfl ?_
      refine wp_iconst d_Mod_goesToNextNumbering_25 (v := nI 1) rfl ?_
      refine wp_isub d_Mod_goesToNextNumbering_26 ?_
      refine wp_istore_n d_Mod_goesToNextNumbering_27 rfl (by decide) ?_
      refine wp_goto 3 d_Mod_goesToNextNumbering_28 rfl ?_
      exact ih _ _ _ _ _ h
    have k13 : ∀ u2 u3 u4 u5 : Value, ¬ x5 = true → wp X d f_Mod_goesToNextNumbering (0, 0) 31 [.ref 312, .int i_, u2, u3, u4, u5] [] (lay M) Q := by
      intro u2 u3 u4 u5 x14
      replace h := inn h x14
      cases h
      exact K _ _ _ _
    refine wp_iload_n d_Mod_goesToNextNumbering_3 rfl rfl ?_
    refine wz_lt 31 d_Mod_goesToNextNumbering_4 rfl (fun h4 => ?_) (fun h4 => ?_)
    · replace e6 := inn e6 (fun z => z h4)
      cases e6
      exact k13 _ _ _ _ (fun z => Bool.noConfusion z)
    · replace e6 := ip e6 h4
      refine wp_aload_n d_Mod_goesToNextNumbering_7 rfl rfl ?_
      refine wl_getR d_Mod_goesToNextNumbering_8 lf_Mod_95 sh_312 rfl ?_
      refine wp_iload_n d_Mod_goesToNextNumbering_11 rfl rfl ?_
      obtain ⟨v16, e15, e6⟩ := ob1_some e6
      refine wa_ald d_Mod_goesToNextNumbering_12 sh_340 e15 ?_
      refine wp_aload_n d_Mod_goesToNextNumbering_13 rfl rfl ?_
      refine wl_getR d_Mod_goesToNextNumbering_14 lf_Mod_95 sh_312 rfl ?_
      refine wp_iload_n d_Mod_goesToNextNumbering_17 rfl rfl ?_
      refine wp_iconst d_Mod_goesToNextNumbering_18 (v := nI 1) rfl ?_
      refine wp_iadd d_Mod_goesToNextNumbering_19 ?_
      obtain ⟨v18, e17, e6⟩ := ob1_some e6
      refine wa_ald d_Mod_goesToNextNumbering_20 sh_340 e17 ?_
      refine wq_icmp_le 31 d_Mod_goesToNextNumbering_21 rfl (fun h21 => ?_) (fun h21 => ?_)
      · cases e6
        exact k13 _ _ _ _ (fun z => h21 (of_decide_eq_true z))
      · cases e6
        exact k11 _ _ _ _ (decide_eq_true h21)
theorem l_Mod_goesToNextNumbering_2 {i_ : Int32} {M : mM}  {k_r : Int32} (K : ∀ u3 u4 u5 : Value, wp X d f_Mod_goesToNextNumbering (0, 0) 62 [.ref 312, .int i_, .int k_r, u3, u4, u5] [] (lay M) Q) : ∀ (n : Nat) (k_ : Int32) (u3 u4 u5 : Value), L_Mod_goesToNextNumbering_2 z i_ M n k_ = some (k_r) → wp X d f_Mod_goesToNextNumbering (0, 0) 40 [.ref 312, .int i_, .int k_, u3, u4, u5] [] (lay M) Q := by
  intro n
  induction n with
  | zero => intro k_ u3 u4 u5 h; exact nn h
  | succ n ih =>
    intro k_ u3 u4 u5 h
    obtain ⟨x24, e25, h⟩ := ob1_some h
    have k30 : ∀ u3 u4 u5 : Value, x24 = true → wp X d f_Mod_goesToNextNumbering (0, 0) 55 [.ref 312, .int i_, .int k_, u3, u4, u5] [] (lay M) Q := by
      intro u3 u4 u5 x31
      replace h := ip h x31
      refine wp_iload_n d_Mod_goesToNextNumbering_55 rfl rfl ?_
      refine wp_iconst d_Mod_goesToNextNumbering_56 (v := nI 1) rfl ?_
      refine wp_isub d_Mod_goesToNextNumbering_57 ?_
      refine wp_istore_n d_Mod_goesToNextNumbering_58 rfl (by decide) ?_
      refine wp_goto 40 d_Mod_goesToNextNumbering_59 rfl ?_
      exact ih _ _ _ _ h
    have k32 : ∀ u3 u4 u5 : Value, ¬ x24 = true → wp X d f_Mod_goesToNextNumbering (0, 0) 62 [.ref 312, .int i_, .int k_, u3, u4, u5] [] (lay M) Q := by
      intro u3 u4 u5 x33
      replace h := inn h x33
      cases h
      exact K _ _ _
    refine wp_aload_n d_Mod_goesToNextNumbering_40 rfl rfl ?_
    refine wl_getR d_Mod_goesToNextNumbering_41 lf_Mod_95 sh_312 rfl ?_
    refine wp_iload_n d_Mod_goesToNextNumbering_44 rfl rfl ?_
    obtain ⟨v35, e34, e25⟩ := ob1_some e25
    refine wa_ald d_Mod_goesToNextNumbering_45 sh_340 e34 ?_
    refine wp_aload_n d_Mod_goesToNextNumbering_46 rfl rfl ?_
    refine wl_getR d_Mod_goesToNextNumbering_47 lf_Mod_95 sh_312 rfl ?_
    refine wp_iload_n d_Mod_goesToNextNumbering_50 rfl rfl ?_
    obtain ⟨v37, e36, e25⟩ := ob1_some e25
    refine wa_ald d_Mod_goesToNextNumbering_51 sh_340 e36 ?_
    refine wq_icmp_ge 62 d_Mod_goesToNextNumbering_52 rfl (fun h52 => ?_) (fun h52 => ?_)
    · cases e25
      exact k32 _ _ _ (fun z => h52 (of_decide_eq_true z))
    · cases e25
      exact k30 _ _ _ (decide_eq_true h52)
theorem l_Mod_goesToNextNumbering_3  {q1 : Value} {q2 : Value} {v_r : Int32} {b_r : Int32} {N' : mM} (K : ∀ u5 : Value, wp X d f_Mod_goesToNextNumbering (0, 0) 146 [.ref 312, q1, q2, .int v_r, .int b_r, u5] [] (lay N') Q) : ∀ (n : Nat) (v_ : Int32) (b_ : Int32) (a_ : Int32) (M : mM), L_Mod_goesToNextNumbering_3 z n v_ b_ a_ M = some (v_r, b_r, N') → wp X d f_Mod_goesToNextNumbering (0, 0) 97 [.ref 312, q1, q2, .int v_, .int b_, .int a_] [] (lay M) Q := by
  intro n
  induction n with
  | zero => intro v_ b_ a_ M h; exact nn h
  | succ n ih =>
    intro v_ b_ a_ M h
    refine wp_iload d_Mod_goesToNextNumbering_97 rfl ?_
    refine wp_iload d_Mod_goesToNextNumbering_99 rfl ?_
    refine wq_icmp_ge 146 d_Mod_goesToNextNumbering_101 rfl (fun h101 => ?_) (fun h101 => ?_)
    · replace h := inn h h101
      cases h
      exact K _
    · replace h := ip h h101
      refine wp_aload_n d_Mod_goesToNextNumbering_104 rfl rfl ?_
      refine wl_getR d_Mod_goesToNextNumbering_105 lf_Mod_95 sh_312 rfl ?_
      refine wp_iload d_Mod_goesToNextNumbering_108 rfl ?_
      obtain ⟨v48, e47, h⟩ := ob1_some h
      refine wa_ald d_Mod_goesToNextNumbering_110 sh_340 e47 ?_
      refine wp_istore_n d_Mod_goesToNextNumbering_111 rfl (by decide) ?_
      refine wp_aload_n d_Mod_goesToNextNumbering_112 rfl rfl ?_
      refine wl_getR d_Mod_goesToNextNumbering_113 lf_Mod_95 sh_312 rfl ?_
      refine wp_iload d_Mod_goesToNextNumbering_116 rfl ?_
      refine wp_aload_n d_Mod_goesToNextNumbering_118 rfl rfl ?_
      refine wl_getR d_Mod_goesToNextNumbering_119 lf_Mod_95 sh_312 rfl ?_
      refine wp_iload d_Mod_goesToNextNumbering_122 rfl ?_
      obtain ⟨v50, e49, h⟩ := ob1_some h
      refine wa_ald d_Mod_goesToNextNumbering_124 sh_340 e49 ?_
      obtain ⟨M52, e51, h⟩ := ob1_some h
      refine wa_ast d_Mod_goesToNextNumbering_125 sh_340 e51 ?_
      refine wp_aload_n d_Mod_goesToNextNumbering_126 rfl rfl ?_
      refine wl_getR d_Mod_goesToNextNumbering_127 lf_Mod_95 sh_312 rfl ?_
      refine wp_iload d_Mod_goesToNextNumbering_130 rfl ?_
      refine wp_iload_n d_Mod_goesToNextNumbering_132 rfl rfl ?_
      obtain ⟨M54, e53, h⟩ := ob1_some h
      refine wa_ast d_Mod_goesToNextNumbering_133 sh_340 e53 ?_
      refine wp_iload d_Mod_goesToNextNumbering_134 rfl ?_
      refine wp_iconst d_Mod_goesToNextNumbering_136 (v := nI 1) rfl ?_
      refine wp_isub d_Mod_goesToNextNumbering_137 ?_
      refine wp_istore d_Mod_goesToNextNumbering_138 (by decide) ?_
      refine wp_iinc d_Mod_goesToNextNumbering_140 (v := a_ + nI 1) rfl rfl ?_
      refine wp_goto 97 d_Mod_goesToNextNumbering_143 rfl ?_
      exact ih _ _ _ _ h
theorem s_Mod_goesToNextNumbering {M : mM} {r : Bool} {M' : mM} (h : F_Mod_goesToNextNumbering z M = some (r, M')) (hq : Q (some (.int (bI r))) (lay M')) : Sp X d f_Mod_goesToNextNumbering [.ref 312] (lay M) Q := by
  refine Sp_of (by decide) rfl (Nat.le_of_ble_eq_true rfl) ?_
  refine wp_bipush d_Mod_goesToNextNumbering_0 (v := nI 6) rfl ?_
  refine wp_istore_n d_Mod_goesToNextNumbering_2 rfl (by decide) ?_
  obtain ⟨i_19, e60, h⟩ := ob1_some h
  refine l_Mod_goesToNextNumbering_1 ?_ _ _ _ _ _ _ e60
  intro u2 u3 u4 u5
  refine wp_iload_n d_Mod_goesToNextNumbering_31 rfl rfl ?_
  refine wz_ge 37 d_Mod_goesToNextNumbering_32 rfl (fun h32 => ?_) (fun h32 => ?_)
  · replace h := inn h h32
    refine wp_bipush d_Mod_goesToNextNumbering_37 (v := nI 7) rfl ?_
    refine wp_istore_n d_Mod_goesToNextNumbering_39 rfl (by decide) ?_
    obtain ⟨k_38, e59, h⟩ := ob1_some h
    refine l_Mod_goesToNextNumbering_2 ?_ _ _ _ _ _ e59
    intro u3 u4 u5
    refine wp_aload_n d_Mod_goesToNextNumbering_62 rfl rfl ?_
    refine wl_getR d_Mod_goesToNextNumbering_63 lf_Mod_95 sh_312 rfl ?_
    refine wp_iload_n d_Mod_goesToNextNumbering_66 rfl rfl ?_
    obtain ⟨v40, e39, h⟩ := ob1_some h
    refine wa_ald d_Mod_goesToNextNumbering_67 sh_340 e39 ?_
    refine wp_istore_n d_Mod_goesToNextNumbering_68 rfl (by decide) ?_
    refine wp_aload_n d_Mod_goesToNextNumbering_69 rfl rfl ?_
    refine wl_getR d_Mod_goesToNextNumbering_70 lf_Mod_95 sh_312 rfl ?_
    refine wp_iload_n d_Mod_goesToNextNumbering_73 rfl rfl ?_
    refine wp_aload_n d_Mod_goesToNextNumbering_74 rfl rfl ?_
    refine wl_getR d_Mod_goesToNextNumbering_75 lf_Mod_95 sh_312 rfl ?_
    refine wp_iload_n d_Mod_goesToNextNumbering_78 rfl rfl ?_
    obtain ⟨v42, e41, h⟩ := ob1_some h
    refine wa_ald d_Mod_goesToNextNumbering_79 sh_340 e41 ?_
    obtain ⟨M44, e43, h⟩ := ob1_some h
    refine wa_ast d_Mod_goesToNextNumbering_80 sh_340 e43 ?_
    refine wp_aload_n d_Mod_goesToNextNumbering_81 rfl rfl ?_
    refine wl_getR d_Mod_goesToNextNumbering_82 lf_Mod_95 sh_312 rfl ?_
    refine wp_iload_n d_Mod_goesToNextNumbering_85 rfl rfl ?_
    refine wp_iload_n d_Mod_goesToNextNumbering_86 rfl rfl ?_
    obtain ⟨M46, e45, h⟩ := ob1_some h
    refine wa_ast d_Mod_goesToNextNumbering_87 sh_340 e45 ?_
    refine wp_bipush d_Mod_goesToNextNumbering_88 (v := nI 7) rfl ?_
    refine wp_istore d_Mod_goesToNextNumbering_90 (by decide) ?_
    refine wp_iload_n d_Mod_goesToNextNumbering_92 rfl rfl ?_
    refine wp_iconst d_Mod_goesToNextNumbering_93 (v := nI 1) rfl ?_
    refine wp_iadd d_Mod_goesToNextNumbering_94 ?_
    refine wp_istore d_Mod_goesToNextNumbering_95 (by decide) ?_
    obtain ⟨v_55, b_56, M57, e58, h⟩ := ob3_some h
    refine l_Mod_goesToNextNumbering_3 ?_ _ _ _ _ _ e58
    intro u5
    refine wp_iconst d_Mod_goesToNextNumbering_146 (v := bI true) rfl ?_
    cases h
    exact wb_iret d_Mod_goesToNextNumbering_147 rfl rfl hq
  · replace h := ip h h32
    refine wp_iconst d_Mod_goesToNextNumbering_35 (v := bI false) rfl ?_
    cases h
    exact wb_iret d_Mod_goesToNextNumbering_36 rfl rfl hq
def L_Mod_wings_1 (z : Nat) : Nat → Int32 → mM → Option (mM)
  | 0, _, _ => none
  | n + 1, k_, M =>
    if k_ < (nI 8) then
    ob1 (wa M 340 8 k_ k_) fun M2 =>
    L_Mod_wings_1 z n (k_ + nI 1) M2
    else
    some (M)
def L_Mod_wings_2 (z : Nat) : Nat → Int32 → Bool → mM → Option (Int32 × Bool × mM)
  | 0, _, _, _ => none
  | n + 1, n_, isMore_, M =>
    if isMore_ = true then
    ob1 (ob1 (ob1 (F_Mod_isAlike z M) fun v28 =>
    some (v28)) fun x20 =>
    if x20 = true then
    some (n_ + (nI 1))
    else
    some (n_)) fun n_15 =>
    ob2 (F_Mod_goesToNextNumbering z M) fun v17 M18 =>
    L_Mod_wings_2 z n n_15 v17 M18
    else
    some (n_, isMore_, M)
def F_Mod_wings (z : Nat) (what_ : Int32) (M : mM) : Option (Int32 × mM) :=
  if ¬ ((F_Mod_isIn what_ (nI 0) (nI 1)) = true) then
  some ((-1), M)
  else
  ob1 (L_Mod_wings_1 z z (nI 0) M) fun M3 =>
  ob3 (L_Mod_wings_2 z z (nI 0) true M3) fun n_30 isMore_31 M32 =>
  some ((if what_ = (nI 1) then n_30 else (if (nI 0) < n_30 then nI 1 else nI 0)), M32)
theorem l_Mod_wings_1  {q1 : Value} {N' : mM} (K : ∀ u2 u3 : Value, wp X (d + 2) f_Mod_wings (0, 0) 38 [.ref 312, q1, u2, u3] [] (lay N') Q) : ∀ (n : Nat) (k_ : Int32) (M : mM) (u3 : Value), L_Mod_wings_1 z n k_ M = some (N') → wp X (d + 2) f_Mod_wings (0, 0) 19 [.ref 312, q1, .int k_, u3] [] (lay M) Q := by
  intro n
  induction n with
  | zero => intro k_ M u3 h; exact nn h
  | succ n ih =>
    intro k_ M u3 h
    refine wp_iload_n d_Mod_wings_19 rfl rfl ?_
    refine wp_bipush d_Mod_wings_20 (v := nI 8) rfl ?_
    refine wq_icmp_ge 38 d_Mod_wings_22 rfl (fun h22 => ?_) (fun h22 => ?_)
    · replace h := inn h h22
      cases h
      exact K _ _
    · replace h := ip h h22
      refine wp_aload_n d_Mod_wings_25 rfl rfl ?_
      refine wl_getR d_Mod_wings_26 lf_Mod_95 sh_312 rfl ?_
      refine wp_iload_n d_Mod_wings_29 rfl rfl ?_
      refine wp_iload_n d_Mod_wings_30 rfl rfl ?_
      obtain ⟨M2, e1, h⟩ := ob1_some h
      refine wa_ast d_Mod_wings_31 sh_340 e1 ?_
      refine wp_iinc d_Mod_wings_32 (v := k_ + nI 1) rfl rfl ?_
      refine wp_goto 19 d_Mod_wings_35 rfl ?_
      exact ih _ _ _ h
theorem l_Mod_wings_2  {q1 : Value} {n_r : Int32} {isMore_r : Bool} {N' : mM} (K : wp X (d + 2) f_Mod_wings (0, 0) 65 [.ref 312, q1, .int n_r, .int (bI isMore_r)] [] (lay N') Q) : ∀ (n : Nat) (n_ : Int32) (isMore_ : Bool) (M : mM), L_Mod_wings_2 z n n_ isMore_ M = some (n_r, isMore_r, N') → wp X (d + 2) f_Mod_wings (0, 0) 42 [.ref 312, q1, .int n_, .int (bI isMore_)] [] (lay M) Q := by
  intro n
  induction n with
  | zero => intro n_ isMore_ M h; exact nn h
  | succ n ih =>
    intro n_ isMore_ M h
    refine wp_iload_n d_Mod_wings_42 rfl rfl ?_
    refine wc_eq 65 d_Mod_wings_43 rfl (fun h43 => ?_) (fun h43 => ?_)
    · replace h := inn h h43
      cases h
      exact K
    · replace h := ip h h43
      obtain ⟨n_15, e16, h⟩ := ob1_some h
      have k14 : wp X (d + 2) f_Mod_wings (0, 0) 57 [.ref 312, q1, .int n_15, .int (bI isMore_)] [] (lay M) Q := by
        refine wp_aload_n d_Mod_wings_57 rfl rfl ?_
        obtain ⟨v17, M18, e19, h⟩ := ob2_some h
        refine wl_callV0 d_Mod_wings_58 lc_Mod_goesToNextNumbering lv_Mod_450 rfl sh_312 rfl rfl ⟨rfl, rfl⟩ ⟨by decide, by decide⟩ ?_
        refine s_Mod_goesToNextNumbering (d := d + 1) e19 ?_
        refine wp_istore_n d_Mod_wings_61 rfl (by decide) ?_
        refine wp_goto 42 d_Mod_wings_62 rfl ?_
        exact ih _ _ _ h
      obtain ⟨x20, e21, e16⟩ := ob1_some e16
      have k24 : x20 = true → wp X (d + 2) f_Mod_wings (0, 0) 53 [.ref 312, q1, .int n_, .int (bI isMore_)] [] (lay M) Q := by
        intro x25
        replace e16 := ip e16 x25
        refine wp_iload_n d_Mod_wings_53 rfl rfl ?_
        refine wp_iconst d_Mod_wings_54 (v := nI 1) rfl ?_
        refine wp_iadd d_Mod_wings_55 ?_
        refine wp_istore_n d_Mod_wings_56 rfl (by decide) ?_
        cases e16
        exact k14
      have k26 : ¬ x20 = true → wp X (d + 2) f_Mod_wings (0, 0) 57 [.ref 312, q1, .int n_, .int (bI isMore_)] [] (lay M) Q := by
        intro x27
        replace e16 := inn e16 x27
        cases e16
        exact k14
      refine wp_aload_n d_Mod_wings_46 rfl rfl ?_
      obtain ⟨v28, e29, e21⟩ := ob1_some e21
      refine wl_callV0 d_Mod_wings_47 lc_Mod_isAlike lv_Mod_447 rfl sh_312 rfl rfl ⟨rfl, rfl⟩ ⟨by decide, by decide⟩ ?_
      refine s_Mod_isAlike (d := d) e29 ?_
      refine wc_eq 57 d_Mod_wings_50 rfl (fun h50 => ?_) (fun h50 => ?_)
      · cases e21
        exact k26 h50
      · cases e21
        exact k24 h50
theorem s_Mod_wings {what_ : Int32} {M : mM} {r : Int32} {M' : mM} (h : F_Mod_wings z what_ M = some (r, M')) (hq : Q (some (.int r)) (lay M')) : Sp X (d + 2) f_Mod_wings [.ref 312, .int what_] (lay M) Q := by
  refine Sp_of (by decide) rfl (Nat.le_of_ble_eq_true rfl) ?_
  refine wp_aload_n d_Mod_wings_0 rfl rfl ?_
  refine wp_iconst d_Mod_wings_1 (v := nI 0) rfl ?_
  refine wl_putC d_Mod_wings_2 lp_Mod_107 sh_312 rfl ⟨rfl, rfl⟩ ?_
  refine wp_aload_n d_Mod_wings_5 rfl rfl ?_
  refine wp_iload_n d_Mod_wings_6 rfl rfl ?_
  refine wp_iconst d_Mod_wings_7 (v := nI 0) rfl ?_
  refine wp_iconst d_Mod_wings_8 (v := nI 1) rfl ?_
  refine wl_callV3 d_Mod_wings_9 lc_Mod_isIn lv_Mod_135 rfl sh_312 rfl rfl ⟨rfl, rfl⟩ ⟨by decide, by decide⟩ ?_
  refine s_Mod_isIn (d := d + 1) rfl ?_
  refine wc_ne 17 d_Mod_wings_12 rfl (fun h12 => ?_) (fun h12 => ?_)
  · replace h := inn h (fun z => z h12)
    refine wp_iconst d_Mod_wings_17 (v := nI 0) rfl ?_
    refine wp_istore_n d_Mod_wings_18 rfl (by decide) ?_
    obtain ⟨M3, e37, h⟩ := ob1_some h
    refine l_Mod_wings_1 ?_ _ _ _ _ e37
    intro u2 u3
    refine wp_iconst d_Mod_wings_38 (v := nI 0) rfl ?_
    refine wp_istore_n d_Mod_wings_39 rfl (by decide) ?_
    refine wp_iconst d_Mod_wings_40 (v := bI true) rfl ?_
    refine wp_istore_n d_Mod_wings_41 rfl (by decide) ?_
    obtain ⟨n_30, isMore_31, M32, e36, h⟩ := ob3_some h
    refine l_Mod_wings_2 ?_ _ _ _ _ e36
    have k34 : wp X (d + 2) f_Mod_wings (0, 0) 83 [.ref 312, .int what_, .int n_30, .int (bI isMore_31)] [.int (if what_ = (nI 1) then n_30 else (if (nI 0) < n_30 then nI 1 else nI 0))] (lay M32) Q := by
      cases h
      exact wp_iret d_Mod_wings_83 rfl rfl rfl hq
    refine wp_iload_n d_Mod_wings_65 rfl rfl ?_
    refine wp_iconst d_Mod_wings_66 (v := nI 1) rfl ?_
    refine wq_icmp_ne 74 d_Mod_wings_67 rfl (fun h67 => ?_) (fun h67 => ?_)
    · have k35 : wp X (d + 2) f_Mod_wings (0, 0) 83 [.ref 312, .int what_, .int n_30, .int (bI isMore_31)] [.int (if (nI 0) < n_30 then nI 1 else nI 0)] (lay M32) Q := by
        exact wj_in h67 (k34)
      refine wp_iload_n d_Mod_wings_74 rfl rfl ?_
      refine wz_le 82 d_Mod_wings_75 rfl (fun h75 => ?_) (fun h75 => ?_)
      · refine wp_iconst d_Mod_wings_82 (v := nI 0) rfl ?_
        exact wj_in h75 (k35)
      · refine wp_iconst d_Mod_wings_78 (v := nI 1) rfl ?_
        refine wp_goto 83 d_Mod_wings_79 rfl ?_
        exact wj_ip h75 (k35)
    · refine wp_iload_n d_Mod_wings_70 rfl rfl ?_
      refine wp_goto 83 d_Mod_wings_71 rfl ?_
      exact wj_ip h67 (k34)
  · replace h := ip h h12
    refine wp_iconst d_Mod_wings_15 (v := (-1)) rfl ?_
    cases h
    exact wp_iret d_Mod_wings_16 rfl rfl rfl hq
def F_Mod_isLeap (year_ : Int32) : Bool :=
  decide (((jrem year_ (nI 4)) = (nI 0) ∧ (¬ ((jrem year_ (nI 100)) = (nI 0)) ∨ (jrem year_ (nI 400)) = (nI 0))))
theorem s_Mod_isLeap {year_ : Int32} {M : mM} {r : Bool} (h : F_Mod_isLeap year_ = r) (hq : Q (some (.int (bI r))) (lay M)) : Sp X d f_Mod_isLeap [.ref 312, .int year_] (lay M) Q := by
  refine Sp_of (by decide) rfl (Nat.le_of_ble_eq_true rfl) ?_
  have k1 : wp X d f_Mod_isLeap (0, 0) 26 [.ref 312, .int year_] [.int (bI (decide (((jrem year_ (nI 4)) = (nI 0) ∧ (¬ ((jrem year_ (nI 100)) = (nI 0)) ∨ (jrem year_ (nI 400)) = (nI 0))))))] (lay M) Q := by
    cases h
    exact wb_iret d_Mod_isLeap_26 rfl rfl hq
  refine wp_iload_n d_Mod_isLeap_0 rfl rfl ?_
  refine wp_iconst d_Mod_isLeap_1 (v := nI 4) rfl ?_
  refine wp_irem d_Mod_isLeap_2 (by decide) ?_
  refine wz_ne 25 d_Mod_isLeap_3 rfl (fun h3 => ?_) (fun h3 => ?_)
  · refine wp_iconst d_Mod_isLeap_25 (v := nI 0) rfl ?_
    exact wj_f (fun z => h3 z.1) (k1)
  · refine wp_iload_n d_Mod_isLeap_6 rfl rfl ?_
    refine wp_bipush d_Mod_isLeap_7 (v := nI 100) rfl ?_
    refine wp_irem d_Mod_isLeap_9 (by decide) ?_
    refine wz_ne 21 d_Mod_isLeap_10 rfl (fun h10 => ?_) (fun h10 => ?_)
    · refine wp_iconst d_Mod_isLeap_21 (v := nI 1) rfl ?_
      refine wp_goto 26 d_Mod_isLeap_22 rfl ?_
      exact wj_t ⟨h3, (Or.inl h10)⟩ (k1)
    · refine wp_iload_n d_Mod_isLeap_13 rfl rfl ?_
      refine wp_sipush d_Mod_isLeap_14 (v := nI 400) rfl ?_
      refine wp_irem d_Mod_isLeap_17 (by decide) ?_
      refine wz_ne 25 d_Mod_isLeap_18 rfl (fun h18 => ?_) (fun h18 => ?_)
      · refine wp_iconst d_Mod_isLeap_25 (v := nI 0) rfl ?_
        exact wj_f (fun z => (fun z => z.elim (fun z => z h10) h18) z.2) (k1)
      · refine wp_iconst d_Mod_isLeap_21 (v := nI 1) rfl ?_
        refine wp_goto 26 d_Mod_isLeap_22 rfl ?_
        exact wj_t ⟨h3, (Or.inr h18)⟩ (k1)
def F_Mod_daysIn (month_ : Int32) (year_ : Int32) : Int32 :=
  if month_ = (nI 2) then
  (if (F_Mod_isLeap year_) = true then nI 29 else nI 28)
  else
  (if (((month_ = (nI 4) ∨ month_ = (nI 6)) ∨ month_ = (nI 9)) ∨ month_ = (nI 11)) then nI 30 else nI 31)
theorem s_Mod_daysIn {month_ : Int32} {year_ : Int32} {M : mM} {r : Int32} (h : F_Mod_daysIn month_ year_ = r) (hq : Q (some (.int r)) (lay M)) : Sp X (d + 1) f_Mod_daysIn [.ref 312, .int month_, .int year_] (lay M) Q := by
  refine Sp_of (by decide) rfl (Nat.le_of_ble_eq_true rfl) ?_
  refine wp_iload_n d_Mod_daysIn_0 rfl rfl ?_
  refine wp_iconst d_Mod_daysIn_1 (v := nI 2) rfl ?_
  refine wq_icmp_ne 21 d_Mod_daysIn_2 rfl (fun h2 => ?_) (fun h2 => ?_)
  · replace h := inn h h2
    have k3 : wp X (d + 1) f_Mod_daysIn (0, 0) 51 [.ref 312, .int month_, .int year_] [.int (if (((month_ = (nI 4) ∨ month_ = (nI 6)) ∨ month_ = (nI 9)) ∨ month_ = (nI 11)) then nI 30 else nI 31)] (lay M) Q := by
      cases h
      exact wp_iret d_Mod_daysIn_51 rfl rfl rfl hq
    refine wp_iload_n d_Mod_daysIn_21 rfl rfl ?_
    refine wp_iconst d_Mod_daysIn_22 (v := nI 4) rfl ?_
    refine wq_icmp_eq 44 d_Mod_daysIn_23 rfl (fun h23 => ?_) (fun h23 => ?_)
    · refine wp_bipush d_Mod_daysIn_44 (v := nI 30) rfl ?_
      refine wp_goto 51 d_Mod_daysIn_46 rfl ?_
      exact wj_ip (Or.inl (Or.inl (Or.inl h23))) (k3)
    · refine wp_iload_n d_Mod_daysIn_26 rfl rfl ?_
      refine wp_bipush d_Mod_daysIn_27 (v := nI 6) rfl ?_
      refine wq_icmp_eq 44 d_Mod_daysIn_29 rfl (fun h29 => ?_) (fun h29 => ?_)
      · refine wp_bipush d_Mod_daysIn_44 (v := nI 30) rfl ?_
        refine wp_goto 51 d_Mod_daysIn_46 rfl ?_
        exact wj_ip (Or.inl (Or.inl (Or.inr h29))) (k3)
      · refine wp_iload_n d_Mod_daysIn_32 rfl rfl ?_
        refine wp_bipush d_Mod_daysIn_33 (v := nI 9) rfl ?_
        refine wq_icmp_eq 44 d_Mod_daysIn_35 rfl (fun h35 => ?_) (fun h35 => ?_)
        · refine wp_bipush d_Mod_daysIn_44 (v := nI 30) rfl ?_
          refine wp_goto 51 d_Mod_daysIn_46 rfl ?_
          exact wj_ip (Or.inl (Or.inr h35)) (k3)
        · refine wp_iload_n d_Mod_daysIn_38 rfl rfl ?_
          refine wp_bipush d_Mod_daysIn_39 (v := nI 11) rfl ?_
          refine wq_icmp_ne 49 d_Mod_daysIn_41 rfl (fun h41 => ?_) (fun h41 => ?_)
          · refine wp_bipush d_Mod_daysIn_49 (v := nI 31) rfl ?_
            exact wj_in (fun z => z.elim (fun z => z.elim (fun z => z.elim h23 h29) h35) h41) (k3)
          · refine wp_bipush d_Mod_daysIn_44 (v := nI 30) rfl ?_
            refine wp_goto 51 d_Mod_daysIn_46 rfl ?_
            exact wj_ip (Or.inr h41) (k3)
  · replace h := ip h h2
    have k4 : wp X (d + 1) f_Mod_daysIn (0, 0) 20 [.ref 312, .int month_, .int year_] [.int (if (F_Mod_isLeap year_) = true then nI 29 else nI 28)] (lay M) Q := by
      cases h
      exact wp_iret d_Mod_daysIn_20 rfl rfl rfl hq
    refine wp_aload_n d_Mod_daysIn_5 rfl rfl ?_
    refine wp_iload_n d_Mod_daysIn_6 rfl rfl ?_
    refine wl_callV1 d_Mod_daysIn_7 lc_Mod_isLeap lv_Mod_453 rfl sh_312 rfl rfl ⟨rfl, rfl⟩ ⟨by decide, by decide⟩ ?_
    refine s_Mod_isLeap (d := d) rfl ?_
    refine wc_eq 18 d_Mod_daysIn_10 rfl (fun h10 => ?_) (fun h10 => ?_)
    · refine wp_bipush d_Mod_daysIn_18 (v := nI 28) rfl ?_
      exact wj_in h10 (k4)
    · refine wp_bipush d_Mod_daysIn_13 (v := nI 29) rfl ?_
      refine wp_goto 20 d_Mod_daysIn_15 rfl ?_
      exact wj_ip h10 (k4)
def L_Mod_dayOf_1 (z : Nat) (year_ : Int32) : Nat → Int32 → Int32 → Option (Int32)
  | 0, _, _ => none
  | n + 1, n_, y_ =>
    if y_ < year_ then
    ob1 (some (n_ + (if (F_Mod_isLeap y_) = true then nI 366 else nI 365))) fun v8 =>
    L_Mod_dayOf_1 z year_ n v8 (y_ + nI 1)
    else
    some (n_)
def L_Mod_dayOf_2 (z : Nat) (year_ : Int32) (month_ : Int32) : Nat → Int32 → Int32 → Option (Int32)
  | 0, _, _ => none
  | n + 1, n_, m_ =>
    if m_ < month_ then
    ob1 (some (n_ + (F_Mod_daysIn m_ year_))) fun v11 =>
    L_Mod_dayOf_2 z year_ month_ n v11 (m_ + nI 1)
    else
    some (n_)
def F_Mod_dayOf (z : Nat) (date_ : Int32) : Option (Int32) :=
  ob1 (some (jrem (date_ / (nI 100)) (nI 100))) fun v1 =>
  if ((¬ ((F_Mod_isIn (date_ / (nI 10000)) (nI 1700) (nI 2099)) = true) ∨ ¬ ((F_Mod_isIn v1 (nI 1) (nI 12)) = true)) ∨ ¬ ((F_Mod_isIn (jrem date_ (nI 100)) (nI 1) (F_Mod_daysIn v1 (date_ / (nI 10000)))) = true)) then
  some ((-1))
  else
  ob1 (some ((jrem date_ (nI 100)) - (nI 1))) fun v5 =>
  ob1 (L_Mod_dayOf_1 z (date_ / (nI 10000)) z v5 (nI 1700)) fun n_10 =>
  ob1 (L_Mod_dayOf_2 z (date_ / (nI 10000)) v1 z n_10 (nI 1)) fun n_13 =>
  some (n_13)
theorem l_Mod_dayOf_1 {year_ : Int32} {M : mM}  {q1 : Value} {q3 : Value} {q4 : Value} {n_r : Int32} (K : ∀ u6 : Value, wp X (d + 2) f_Mod_dayOf (0, 0) 109 [.ref 312, q1, .int year_, q3, q4, .int n_r, u6] [] (lay M) Q) : ∀ (n : Nat) (n_ : Int32) (y_ : Int32), L_Mod_dayOf_1 z year_ n n_ y_ = some (n_r) → wp X (d + 2) f_Mod_dayOf (0, 0) 74 [.ref 312, q1, .int year_, q3, q4, .int n_, .int y_] [] (lay M) Q := by
  intro n
  induction n with
  | zero => intro n_ y_ h; exact nn h
  | succ n ih =>
    intro n_ y_ h
    refine wp_iload d_Mod_dayOf_74 rfl ?_
    refine wp_iload_n d_Mod_dayOf_76 rfl rfl ?_
    refine wq_icmp_ge 109 d_Mod_dayOf_77 rfl (fun h77 => ?_) (fun h77 => ?_)
    · replace h := inn h h77
      cases h
      exact K _
    · replace h := ip h h77
      refine wp_iload d_Mod_dayOf_80 rfl ?_
      have k7 : wp X (d + 2) f_Mod_dayOf (0, 0) 100 [.ref 312, q1, .int year_, q3, q4, .int n_, .int y_] [.int (if (F_Mod_isLeap y_) = true then nI 366 else nI 365), .int n_] (lay M) Q := by
        refine wp_iadd d_Mod_dayOf_100 ?_
        obtain ⟨v8, e9, h⟩ := ob1_some h
        refine wx_int e9 ?_
        refine wp_istore d_Mod_dayOf_101 (by decide) ?_
        refine wp_iinc d_Mod_dayOf_103 (v := y_ + nI 1) rfl rfl ?_
        refine wp_goto 74 d_Mod_dayOf_106 rfl ?_
        exact ih _ _ h
      refine wp_aload_n d_Mod_dayOf_82 rfl rfl ?_
      refine wp_iload d_Mod_dayOf_83 rfl ?_
      refine wl_callV1 d_Mod_dayOf_85 lc_Mod_isLeap lv_Mod_453 rfl sh_312 rfl rfl ⟨rfl, rfl⟩ ⟨by decide, by decide⟩ ?_
      refine s_Mod_isLeap (d := d + 1) rfl ?_
      refine wc_eq 97 d_Mod_dayOf_88 rfl (fun h88 => ?_) (fun h88 => ?_)
      · refine wp_sipush d_Mod_dayOf_97 (v := nI 365) rfl ?_
        exact wj_in h88 (k7)
      · refine wp_sipush d_Mod_dayOf_91 (v := nI 366) rfl ?_
        refine wp_goto 100 d_Mod_dayOf_94 rfl ?_
        exact wj_ip h88 (k7)
theorem l_Mod_dayOf_2 {year_ : Int32} {month_ : Int32} {M : mM}  {q1 : Value} {q4 : Value} {n_r : Int32} (K : ∀ u6 : Value, wp X (d + 2) f_Mod_dayOf (0, 0) 136 [.ref 312, q1, .int year_, .int month_, q4, .int n_r, u6] [] (lay M) Q) : ∀ (n : Nat) (n_ : Int32) (m_ : Int32), L_Mod_dayOf_2 z year_ month_ n n_ m_ = some (n_r) → wp X (d + 2) f_Mod_dayOf (0, 0) 112 [.ref 312, q1, .int year_, .int month_, q4, .int n_, .int m_] [] (lay M) Q := by
  intro n
  induction n with
  | zero => intro n_ m_ h; exact nn h
  | succ n ih =>
    intro n_ m_ h
    refine wp_iload d_Mod_dayOf_112 rfl ?_
    refine wp_iload_n d_Mod_dayOf_114 rfl rfl ?_
    refine wq_icmp_ge 136 d_Mod_dayOf_115 rfl (fun h115 => ?_) (fun h115 => ?_)
    · replace h := inn h h115
      cases h
      exact K _
    · replace h := ip h h115
      refine wp_iload d_Mod_dayOf_118 rfl ?_
      refine wp_aload_n d_Mod_dayOf_120 rfl rfl ?_
      refine wp_iload d_Mod_dayOf_121 rfl ?_
      refine wp_iload_n d_Mod_dayOf_123 rfl rfl ?_
      refine wl_callV2 d_Mod_dayOf_124 lc_Mod_daysIn lv_Mod_456 rfl sh_312 rfl rfl ⟨rfl, rfl⟩ ⟨by decide, by decide⟩ ?_
      refine s_Mod_daysIn (d := d) rfl ?_
      refine wp_iadd d_Mod_dayOf_127 ?_
      obtain ⟨v11, e12, h⟩ := ob1_some h
      refine wx_int e12 ?_
      refine wp_istore d_Mod_dayOf_128 (by decide) ?_
      refine wp_iinc d_Mod_dayOf_130 (v := m_ + nI 1) rfl rfl ?_
      refine wp_goto 112 d_Mod_dayOf_133 rfl ?_
      exact ih _ _ h
theorem s_Mod_dayOf {date_ : Int32} {M : mM} {r : Int32} (h : F_Mod_dayOf z date_ = some r) (hq : Q (some (.int r)) (lay M)) : Sp X (d + 2) f_Mod_dayOf [.ref 312, .int date_] (lay M) Q := by
  refine Sp_of (by decide) rfl (Nat.le_of_ble_eq_true rfl) ?_
  refine wp_iload_n d_Mod_dayOf_0 rfl rfl ?_
  refine wp_sipush d_Mod_dayOf_1 (v := nI 10000) rfl ?_
  refine wp_idiv d_Mod_dayOf_4 (by decide) ?_
  refine wp_istore_n d_Mod_dayOf_5 rfl (by decide) ?_
  refine wp_iload_n d_Mod_dayOf_6 rfl rfl ?_
  refine wp_bipush d_Mod_dayOf_7 (v := nI 100) rfl ?_
  refine wp_idiv d_Mod_dayOf_9 (by decide) ?_
  refine wp_bipush d_Mod_dayOf_10 (v := nI 100) rfl ?_
  refine wp_irem d_Mod_dayOf_12 (by decide) ?_
  obtain ⟨v1, e2, h⟩ := ob1_some h
  refine wx_int e2 ?_
  refine wp_istore_n d_Mod_dayOf_13 rfl (by decide) ?_
  refine wp_iload_n d_Mod_dayOf_14 rfl rfl ?_
  refine wp_bipush d_Mod_dayOf_15 (v := nI 100) rfl ?_
  refine wp_irem d_Mod_dayOf_17 (by decide) ?_
  refine wp_istore d_Mod_dayOf_18 (by decide) ?_
  have k3 : ∀ u5 u6 : Value, ((¬ ((F_Mod_isIn (date_ / (nI 10000)) (nI 1700) (nI 2099)) = true) ∨ ¬ ((F_Mod_isIn v1 (nI 1) (nI 12)) = true)) ∨ ¬ ((F_Mod_isIn (jrem date_ (nI 100)) (nI 1) (F_Mod_daysIn v1 (date_ / (nI 10000)))) = true)) → wp X (d + 2) f_Mod_dayOf (0, 0) 61 [.ref 312, .int date_, .int (date_ / (nI 10000)), .int v1, .int (jrem date_ (nI 100)), u5, u6] [] (lay M) Q := by
    intro u5 u6 x4
    replace h := ip h x4
    refine wp_iconst d_Mod_dayOf_61 (v := (-1)) rfl ?_
    cases h
    exact wp_iret d_Mod_dayOf_62 rfl rfl rfl hq
  refine wp_aload_n d_Mod_dayOf_20 rfl rfl ?_
  refine wp_iload_n d_Mod_dayOf_21 rfl rfl ?_
  refine wp_sipush d_Mod_dayOf_22 (v := nI 1700) rfl ?_
  refine wp_sipush d_Mod_dayOf_25 (v := nI 2099) rfl ?_
  refine wl_callV3 d_Mod_dayOf_28 lc_Mod_isIn lv_Mod_135 rfl sh_312 rfl rfl ⟨rfl, rfl⟩ ⟨by decide, by decide⟩ ?_
  refine s_Mod_isIn (d := d + 1) rfl ?_
  refine wc_eq 61 d_Mod_dayOf_31 rfl (fun h31 => ?_) (fun h31 => ?_)
  · exact k3 _ _ (Or.inl (Or.inl h31))
  · refine wp_aload_n d_Mod_dayOf_34 rfl rfl ?_
    refine wp_iload_n d_Mod_dayOf_35 rfl rfl ?_
    refine wp_iconst d_Mod_dayOf_36 (v := nI 1) rfl ?_
    refine wp_bipush d_Mod_dayOf_37 (v := nI 12) rfl ?_
    refine wl_callV3 d_Mod_dayOf_39 lc_Mod_isIn lv_Mod_135 rfl sh_312 rfl rfl ⟨rfl, rfl⟩ ⟨by decide, by decide⟩ ?_
    refine s_Mod_isIn (d := d + 1) rfl ?_
    refine wc_eq 61 d_Mod_dayOf_42 rfl (fun h42 => ?_) (fun h42 => ?_)
    · exact k3 _ _ (Or.inl (Or.inr h42))
    · refine wp_aload_n d_Mod_dayOf_45 rfl rfl ?_
      refine wp_iload d_Mod_dayOf_46 rfl ?_
      refine wp_iconst d_Mod_dayOf_48 (v := nI 1) rfl ?_
      refine wp_aload_n d_Mod_dayOf_49 rfl rfl ?_
      refine wp_iload_n d_Mod_dayOf_50 rfl rfl ?_
      refine wp_iload_n d_Mod_dayOf_51 rfl rfl ?_
      refine wl_callV2 d_Mod_dayOf_52 lc_Mod_daysIn lv_Mod_456 rfl sh_312 rfl rfl ⟨rfl, rfl⟩ ⟨by decide, by decide⟩ ?_
      refine s_Mod_daysIn (d := d) rfl ?_
      refine wl_callV3 d_Mod_dayOf_55 lc_Mod_isIn lv_Mod_135 rfl sh_312 rfl rfl ⟨rfl, rfl⟩ ⟨by decide, by decide⟩ ?_
      refine s_Mod_isIn (d := d + 1) rfl ?_
      refine wc_ne 63 d_Mod_dayOf_58 rfl (fun h58 => ?_) (fun h58 => ?_)
      · replace h := inn h (fun z => z.elim (fun z => z.elim (fun z => z h31) (fun z => z h42)) (fun z => z h58))
        refine wp_iload d_Mod_dayOf_63 rfl ?_
        refine wp_iconst d_Mod_dayOf_65 (v := nI 1) rfl ?_
        refine wp_isub d_Mod_dayOf_66 ?_
        obtain ⟨v5, e6, h⟩ := ob1_some h
        refine wx_int e6 ?_
        refine wp_istore d_Mod_dayOf_67 (by decide) ?_
        refine wp_sipush d_Mod_dayOf_69 (v := nI 1700) rfl ?_
        refine wp_istore d_Mod_dayOf_72 (by decide) ?_
        obtain ⟨n_10, e15, h⟩ := ob1_some h
        refine l_Mod_dayOf_1 ?_ _ _ _ e15
        intro u6
        refine wp_iconst d_Mod_dayOf_109 (v := nI 1) rfl ?_
        refine wp_istore d_Mod_dayOf_110 (by decide) ?_
        obtain ⟨n_13, e14, h⟩ := ob1_some h
        refine l_Mod_dayOf_2 ?_ _ _ _ e14
        intro u6
        refine wp_iload d_Mod_dayOf_136 rfl ?_
        cases h
        exact wp_iret d_Mod_dayOf_138 rfl rfl rfl hq
      · exact k3 _ _ (Or.inr h58)
def F_Mod_weekday (z : Nat) (date_ : Int32) (M : mM) : Option (Int32) :=
  ob1 (ob1 (ob1 (F_Mod_dayOf z date_) fun v26 =>
  some (decide (v26 = (-1)))) fun x16 =>
  if x16 = true then
  some ((-1))
  else
  ob1 (F_Mod_dayOf z date_) fun v24 =>
  some (jrem (v24 + (nI 5)) (nI 7))) fun v14 =>
  some (v14)
theorem s_Mod_weekday {date_ : Int32} {M : mM} {r : Int32} (h : F_Mod_weekday z date_ M = some r) (hq : Q (some (.int r)) (lay M)) : Sp X (d + 3) f_Mod_weekday [.ref 312, .int date_] (lay M) Q := by
  refine Sp_of (by decide) rfl (Nat.le_of_ble_eq_true rfl) ?_
  refine wp_aload_n d_Mod_weekday_0 rfl rfl ?_
  refine wp_iconst d_Mod_weekday_1 (v := nI 0) rfl ?_
  refine wl_putC d_Mod_weekday_2 lp_Mod_107 sh_312 rfl ⟨rfl, rfl⟩ ?_
  obtain ⟨v14, e15, h⟩ := ob1_some h
  have k13 : wp X (d + 3) f_Mod_weekday (0, 0) 28 [.ref 312, .int date_] [.int v14] (lay M) Q := by
    cases h
    exact wp_iret d_Mod_weekday_28 rfl rfl rfl hq
  obtain ⟨x16, e17, e15⟩ := ob1_some e15
  have k20 : x16 = true → wp X (d + 3) f_Mod_weekday (0, 0) 14 [.ref 312, .int date_] [] (lay M) Q := by
    intro x21
    replace e15 := ip e15 x21
    refine wp_iconst d_Mod_weekday_14 (v := (-1)) rfl ?_
    cases e15
    refine wp_goto 28 d_Mod_weekday_15 rfl ?_
    exact k13
  have k22 : ¬ x16 = true → wp X (d + 3) f_Mod_weekday (0, 0) 18 [.ref 312, .int date_] [] (lay M) Q := by
    intro x23
    replace e15 := inn e15 x23
    refine wp_aload_n d_Mod_weekday_18 rfl rfl ?_
    refine wp_iload_n d_Mod_weekday_19 rfl rfl ?_
    obtain ⟨v24, e25, e15⟩ := ob1_some e15
    refine wl_callV1 d_Mod_weekday_20 lc_Mod_dayOf lv_Mod_459 rfl sh_312 rfl rfl ⟨rfl, rfl⟩ ⟨by decide, by decide⟩ ?_
    refine s_Mod_dayOf (d := d) e25 ?_
    refine wp_iconst d_Mod_weekday_23 (v := nI 5) rfl ?_
    refine wp_iadd d_Mod_weekday_24 ?_
    refine wp_bipush d_Mod_weekday_25 (v := nI 7) rfl ?_
    refine wp_irem d_Mod_weekday_27 (by decide) ?_
    cases e15
    exact k13
  refine wp_aload_n d_Mod_weekday_5 rfl rfl ?_
  refine wp_iload_n d_Mod_weekday_6 rfl rfl ?_
  obtain ⟨v26, e27, e17⟩ := ob1_some e17
  refine wl_callV1 d_Mod_weekday_7 lc_Mod_dayOf lv_Mod_459 rfl sh_312 rfl rfl ⟨rfl, rfl⟩ ⟨by decide, by decide⟩ ?_
  refine s_Mod_dayOf (d := d) e27 ?_
  refine wp_iconst d_Mod_weekday_10 (v := (-1)) rfl ?_
  refine wq_icmp_ne 18 d_Mod_weekday_11 rfl (fun h11 => ?_) (fun h11 => ?_)
  · cases e17
    exact k22 (fun z => h11 (of_decide_eq_true z))
  · cases e17
    exact k20 (decide_eq_true h11)
def F_Mod_between (z : Nat) (from_ : Int32) (to_ : Int32) (M : mM) : Option (Int32) :=
  ob1 (ob1 (ob1 (ob1 (F_Mod_dayOf z from_) fun v70 =>
  some (decide (v70 = (-1)))) fun x60 =>
  if x60 = true then some (true)
  else ob1 (F_Mod_dayOf z to_) fun v68 =>
  some (decide (v68 = (-1)))) fun x38 =>
  if x38 = true then
  some ((-1000000))
  else
  ob1 (F_Mod_dayOf z to_) fun v56 =>
  ob1 (F_Mod_dayOf z from_) fun v58 =>
  some (v56 - v58)) fun v36 =>
  some (v36)
theorem s_Mod_between {from_ : Int32} {to_ : Int32} {M : mM} {r : Int32} (h : F_Mod_between z from_ to_ M = some r) (hq : Q (some (.int r)) (lay M)) : Sp X (d + 3) f_Mod_between [.ref 312, .int from_, .int to_] (lay M) Q := by
  refine Sp_of (by decide) rfl (Nat.le_of_ble_eq_true rfl) ?_
  refine wp_aload_n d_Mod_between_0 rfl rfl ?_
  refine wp_iconst d_Mod_between_1 (v := nI 0) rfl ?_
  refine wl_putC d_Mod_between_2 lp_Mod_107 sh_312 rfl ⟨rfl, rfl⟩ ?_
  obtain ⟨v36, e37, h⟩ := ob1_some h
  have k35 : wp X (d + 3) f_Mod_between (0, 0) 40 [.ref 312, .int from_, .int to_] [.int v36] (lay M) Q := by
    cases h
    exact wp_iret d_Mod_between_40 rfl rfl rfl hq
  obtain ⟨x38, e39, e37⟩ := ob1_some e37
  have k52 : x38 = true → wp X (d + 3) f_Mod_between (0, 0) 23 [.ref 312, .int from_, .int to_] [] (lay M) Q := by
    intro x53
    replace e37 := ip e37 x53
    refine wp_ldcw (v := (-1000000)) d_Mod_between_23 lk_Mod_462 ?_
    cases e37
    refine wp_goto 40 d_Mod_between_26 rfl ?_
    exact k35
  have k54 : ¬ x38 = true → wp X (d + 3) f_Mod_between (0, 0) 29 [.ref 312, .int from_, .int to_] [] (lay M) Q := by
    intro x55
    replace e37 := inn e37 x55
    refine wp_aload_n d_Mod_between_29 rfl rfl ?_
    refine wp_iload_n d_Mod_between_30 rfl rfl ?_
    obtain ⟨v56, e57, e37⟩ := ob1_some e37
    refine wl_callV1 d_Mod_between_31 lc_Mod_dayOf lv_Mod_459 rfl sh_312 rfl rfl ⟨rfl, rfl⟩ ⟨by decide, by decide⟩ ?_
    refine s_Mod_dayOf (d := d) e57 ?_
    refine wp_aload_n d_Mod_between_34 rfl rfl ?_
    refine wp_iload_n d_Mod_between_35 rfl rfl ?_
    obtain ⟨v58, e59, e37⟩ := ob1_some e37
    refine wl_callV1 d_Mod_between_36 lc_Mod_dayOf lv_Mod_459 rfl sh_312 rfl rfl ⟨rfl, rfl⟩ ⟨by decide, by decide⟩ ?_
    refine s_Mod_dayOf (d := d) e59 ?_
    refine wp_isub d_Mod_between_39 ?_
    cases e37
    exact k35
  obtain ⟨x60, e61, e39⟩ := ob1_some e39
  have k64 : x60 = true → wp X (d + 3) f_Mod_between (0, 0) 23 [.ref 312, .int from_, .int to_] [] (lay M) Q := by
    intro x65
    replace e39 := ip e39 x65
    cases e39
    exact k52 rfl
  have k66 : ¬ x60 = true → wp X (d + 3) f_Mod_between (0, 0) 14 [.ref 312, .int from_, .int to_] [] (lay M) Q := by
    intro x67
    replace e39 := inn e39 x67
    refine wp_aload_n d_Mod_between_14 rfl rfl ?_
    refine wp_iload_n d_Mod_between_15 rfl rfl ?_
    obtain ⟨v68, e69, e39⟩ := ob1_some e39
    refine wl_callV1 d_Mod_between_16 lc_Mod_dayOf lv_Mod_459 rfl sh_312 rfl rfl ⟨rfl, rfl⟩ ⟨by decide, by decide⟩ ?_
    refine s_Mod_dayOf (d := d) e69 ?_
    refine wp_iconst d_Mod_between_19 (v := (-1)) rfl ?_
    refine wq_icmp_ne 29 d_Mod_between_20 rfl (fun h20 => ?_) (fun h20 => ?_)
    · cases e39
      exact k54 (fun z => h20 (of_decide_eq_true z))
    · cases e39
      exact k52 (decide_eq_true h20)
  refine wp_aload_n d_Mod_between_5 rfl rfl ?_
  refine wp_iload_n d_Mod_between_6 rfl rfl ?_
  obtain ⟨v70, e71, e61⟩ := ob1_some e61
  refine wl_callV1 d_Mod_between_7 lc_Mod_dayOf lv_Mod_459 rfl sh_312 rfl rfl ⟨rfl, rfl⟩ ⟨by decide, by decide⟩ ?_
  refine s_Mod_dayOf (d := d) e71 ?_
  refine wp_iconst d_Mod_between_10 (v := (-1)) rfl ?_
  refine wq_icmp_eq 23 d_Mod_between_11 rfl (fun h11 => ?_) (fun h11 => ?_)
  · cases e61
    exact k64 (decide_eq_true h11)
  · cases e61
    exact k66 (fun z => h11 (of_decide_eq_true z))
def L_Mod_leans_1 (z : Nat) (M : mM) : Nat → Int32 → Int32 → Option (Int32)
  | 0, _, _ => none
  | n + 1, sum_, i_ =>
    ob1 (if ¬ (i_ < (nI 0)) then ob1 (F_Mod_isTaken z i_ M) fun v19 =>
    some (v19)
    else some (false)) fun x7 =>
    if x7 = true then
    ob1 (F_Mod_stuckAt z i_ M) fun v13 =>
    ob1 (ra M 313 270 ((F_Mod_thingAt v13) + (nI 2))) fun v16 =>
    L_Mod_leans_1 z M n (sum_ + v16) (i_ + (-1))
    else
    some (sum_)
def L_Mod_leans_2 (z : Nat) (M : mM) : Nat → Int32 → Int32 → Option (Int32)
  | 0, _, _ => none
  | n + 1, sum_, i_ =>
    ob1 (if i_ < (nI 60) then ob1 (F_Mod_isTaken z i_ M) fun v36 =>
    some (v36)
    else some (false)) fun x24 =>
    if x24 = true then
    ob1 (F_Mod_stuckAt z i_ M) fun v30 =>
    ob1 (ra M 313 270 ((F_Mod_thingAt v30) + (nI 2))) fun v33 =>
    L_Mod_leans_2 z M n (sum_ - v33) (i_ + nI 1)
    else
    some (sum_)
def F_Mod_leans (z : Nat) (thing_ : Int32) (M : mM) : Option (Int32) :=
  ob1 (F_Mod_thingOf z thing_ M) fun v1 =>
  if v1 = (-1) then
  some ((-1000))
  else
  ob1 (ra M 313 270 ((F_Mod_thingAt v1) + (nI 4))) fun v4 =>
  ob1 (L_Mod_leans_1 z M z (nI 0) (v4 - (nI 1))) fun sum_21 =>
  ob1 (L_Mod_leans_2 z M z sum_21 (v4 + (nI 1))) fun sum_38 =>
  some (sum_38)
theorem l_Mod_leans_1 {M : mM}  {q1 : Value} {q2 : Value} {q3 : Value} {sum_r : Int32} (K : ∀ u5 : Value, wp X (d + 3) f_Mod_leans (0, 0) 83 [.ref 312, q1, q2, q3, .int sum_r, u5] [] (lay M) Q) : ∀ (n : Nat) (sum_ : Int32) (i_ : Int32), L_Mod_leans_1 z M n sum_ i_ = some (sum_r) → wp X (d + 3) f_Mod_leans (0, 0) 41 [.ref 312, q1, q2, q3, .int sum_, .int i_] [] (lay M) Q := by
  intro n
  induction n with
  | zero => intro sum_ i_ h; exact nn h
  | succ n ih =>
    intro sum_ i_ h
    obtain ⟨x7, e8, h⟩ := ob1_some h
    have k11 : x7 = true → wp X (d + 3) f_Mod_leans (0, 0) 55 [.ref 312, q1, q2, q3, .int sum_, .int i_] [] (lay M) Q := by
      intro x12
      replace h := ip h x12
      refine wp_iload d_Mod_leans_55 rfl ?_
      refine wp_aload_n d_Mod_leans_57 rfl rfl ?_
      refine wl_getR d_Mod_leans_58 lf_Mod_7 sh_312 rfl ?_
      refine wp_aload_n d_Mod_leans_61 rfl rfl ?_
      refine wp_aload_n d_Mod_leans_62 rfl rfl ?_
      refine wp_iload d_Mod_leans_63 rfl ?_
      obtain ⟨v13, e14, h⟩ := ob1_some h
      refine wl_callV1 d_Mod_leans_65 lc_Mod_stuckAt lv_Mod_128 rfl sh_312 rfl rfl ⟨rfl, rfl⟩ ⟨by decide, by decide⟩ ?_
      refine s_Mod_stuckAt (d := d + 1) e14 ?_
      refine wl_callV1 d_Mod_leans_68 lc_Mod_thingAt lv_Mod_124 rfl sh_312 rfl rfl ⟨rfl, rfl⟩ ⟨by decide, by decide⟩ ?_
      refine s_Mod_thingAt (d := d + 2) rfl ?_
      refine wp_iconst d_Mod_leans_71 (v := nI 2) rfl ?_
      refine wp_iadd d_Mod_leans_72 ?_
      obtain ⟨v16, e15, h⟩ := ob1_some h
      refine wa_ald d_Mod_leans_73 sh_313 e15 ?_
      refine wp_iadd d_Mod_leans_74 ?_
      refine wp_istore d_Mod_leans_75 (by decide) ?_
      refine wp_iinc d_Mod_leans_77 (v := i_ + (-1)) rfl rfl ?_
      refine wp_goto 41 d_Mod_leans_80 rfl ?_
      exact ih _ _ h
    have k17 : ¬ x7 = true → wp X (d + 3) f_Mod_leans (0, 0) 83 [.ref 312, q1, q2, q3, .int sum_, .int i_] [] (lay M) Q := by
      intro x18
      replace h := inn h x18
      cases h
      exact K _
    refine wp_iload d_Mod_leans_41 rfl ?_
    refine wz_lt 83 d_Mod_leans_43 rfl (fun h43 => ?_) (fun h43 => ?_)
    · replace e8 := inn e8 (fun z => z h43)
      cases e8
      exact k17 (fun z => Bool.noConfusion z)
    · replace e8 := ip e8 h43
      refine wp_aload_n d_Mod_leans_46 rfl rfl ?_
      refine wp_iload d_Mod_leans_47 rfl ?_
      obtain ⟨v19, e20, e8⟩ := ob1_some e8
      refine wl_callV1 d_Mod_leans_49 lc_Mod_isTaken lv_Mod_332 rfl sh_312 rfl rfl ⟨rfl, rfl⟩ ⟨by decide, by decide⟩ ?_
      refine s_Mod_isTaken (d := d) e20 ?_
      refine wc_eq 83 d_Mod_leans_52 rfl (fun h52 => ?_) (fun h52 => ?_)
      · cases e8
        exact k17 h52
      · cases e8
        exact k11 h52
theorem l_Mod_leans_2 {M : mM}  {q1 : Value} {q2 : Value} {q3 : Value} {sum_r : Int32} (K : ∀ u5 : Value, wp X (d + 3) f_Mod_leans (0, 0) 132 [.ref 312, q1, q2, q3, .int sum_r, u5] [] (lay M) Q) : ∀ (n : Nat) (sum_ : Int32) (i_ : Int32), L_Mod_leans_2 z M n sum_ i_ = some (sum_r) → wp X (d + 3) f_Mod_leans (0, 0) 88 [.ref 312, q1, q2, q3, .int sum_, .int i_] [] (lay M) Q := by
  intro n
  induction n with
  | zero => intro sum_ i_ h; exact nn h
  | succ n ih =>
    intro sum_ i_ h
    obtain ⟨x24, e25, h⟩ := ob1_some h
    have k28 : x24 = true → wp X (d + 3) f_Mod_leans (0, 0) 104 [.ref 312, q1, q2, q3, .int sum_, .int i_] [] (lay M) Q := by
      intro x29
      replace h := ip h x29
      refine wp_iload d_Mod_leans_104 rfl ?_
      refine wp_aload_n d_Mod_leans_106 rfl rfl ?_
      refine wl_getR d_Mod_leans_107 lf_Mod_7 sh_312 rfl ?_
      refine wp_aload_n d_Mod_leans_110 rfl rfl ?_
      refine wp_aload_n d_Mod_leans_111 rfl rfl ?_
      refine wp_iload d_Mod_leans_112 rfl ?_
      obtain ⟨v30, e31, h⟩ := ob1_some h
      refine wl_callV1 d_Mod_leans_114 lc_Mod_stuckAt lv_Mod_128 rfl sh_312 rfl rfl ⟨rfl, rfl⟩ ⟨by decide, by decide⟩ ?_
      refine s_Mod_stuckAt (d := d + 1) e31 ?_
      refine wl_callV1 d_Mod_leans_117 lc_Mod_thingAt lv_Mod_124 rfl sh_312 rfl rfl ⟨rfl, rfl⟩ ⟨by decide, by decide⟩ ?_
      refine s_Mod_thingAt (d := d + 2) rfl ?_
      refine wp_iconst d_Mod_leans_120 (v := nI 2) rfl ?_
      refine wp_iadd d_Mod_leans_121 ?_
      obtain ⟨v33, e32, h⟩ := ob1_some h
      refine wa_ald d_Mod_leans_122 sh_313 e32 ?_
      refine wp_isub d_Mod_leans_123 ?_
      refine wp_istore d_Mod_leans_124 (by decide) ?_
      refine wp_iinc d_Mod_leans_126 (v := i_ + nI 1) rfl rfl ?_
      refine wp_goto 88 d_Mod_leans_129 rfl ?_
      exact ih _ _ h
    have k34 : ¬ x24 = true → wp X (d + 3) f_Mod_leans (0, 0) 132 [.ref 312, q1, q2, q3, .int sum_, .int i_] [] (lay M) Q := by
      intro x35
      replace h := inn h x35
      cases h
      exact K _
    refine wp_iload d_Mod_leans_88 rfl ?_
    refine wp_bipush d_Mod_leans_90 (v := nI 60) rfl ?_
    refine wq_icmp_ge 132 d_Mod_leans_92 rfl (fun h92 => ?_) (fun h92 => ?_)
    · replace e25 := inn e25 h92
      cases e25
      exact k34 (fun z => Bool.noConfusion z)
    · replace e25 := ip e25 h92
      refine wp_aload_n d_Mod_leans_95 rfl rfl ?_
      refine wp_iload d_Mod_leans_96 rfl ?_
      obtain ⟨v36, e37, e25⟩ := ob1_some e25
      refine wl_callV1 d_Mod_leans_98 lc_Mod_isTaken lv_Mod_332 rfl sh_312 rfl rfl ⟨rfl, rfl⟩ ⟨by decide, by decide⟩ ?_
      refine s_Mod_isTaken (d := d) e37 ?_
      refine wc_eq 132 d_Mod_leans_101 rfl (fun h101 => ?_) (fun h101 => ?_)
      · cases e25
        exact k34 h101
      · cases e25
        exact k28 h101
theorem s_Mod_leans {thing_ : Int32} {M : mM} {r : Int32} (h : F_Mod_leans z thing_ M = some r) (hq : Q (some (.int r)) (lay M)) : Sp X (d + 3) f_Mod_leans [.ref 312, .int thing_] (lay M) Q := by
  refine Sp_of (by decide) rfl (Nat.le_of_ble_eq_true rfl) ?_
  refine wp_aload_n d_Mod_leans_0 rfl rfl ?_
  refine wp_iconst d_Mod_leans_1 (v := nI 0) rfl ?_
  refine wl_putC d_Mod_leans_2 lp_Mod_107 sh_312 rfl ⟨rfl, rfl⟩ ?_
  refine wp_aload_n d_Mod_leans_5 rfl rfl ?_
  refine wp_iload_n d_Mod_leans_6 rfl rfl ?_
  obtain ⟨v1, e2, h⟩ := ob1_some h
  refine wl_callV1 d_Mod_leans_7 lc_Mod_thingOf lv_Mod_139 rfl sh_312 rfl rfl ⟨rfl, rfl⟩ ⟨by decide, by decide⟩ ?_
  refine s_Mod_thingOf (d := d + 1) e2 ?_
  refine wp_istore_n d_Mod_leans_10 rfl (by decide) ?_
  refine wp_iload_n d_Mod_leans_11 rfl rfl ?_
  refine wp_iconst d_Mod_leans_12 (v := (-1)) rfl ?_
  refine wq_icmp_ne 20 d_Mod_leans_13 rfl (fun h13 => ?_) (fun h13 => ?_)
  · replace h := inn h h13
    refine wp_aload_n d_Mod_leans_20 rfl rfl ?_
    refine wl_getR d_Mod_leans_21 lf_Mod_7 sh_312 rfl ?_
    refine wp_aload_n d_Mod_leans_24 rfl rfl ?_
    refine wp_iload_n d_Mod_leans_25 rfl rfl ?_
    refine wl_callV1 d_Mod_leans_26 lc_Mod_thingAt lv_Mod_124 rfl sh_312 rfl rfl ⟨rfl, rfl⟩ ⟨by decide, by decide⟩ ?_
    refine s_Mod_thingAt (d := d + 2) rfl ?_
    refine wp_iconst d_Mod_leans_29 (v := nI 4) rfl ?_
    refine wp_iadd d_Mod_leans_30 ?_
    obtain ⟨v4, e3, h⟩ := ob1_some h
    refine wa_ald d_Mod_leans_31 sh_313 e3 ?_
    refine wp_istore_n d_Mod_leans_32 rfl (by decide) ?_
    refine wp_iconst d_Mod_leans_33 (v := nI 0) rfl ?_
    refine wp_istore d_Mod_leans_34 (by decide) ?_
    refine wp_iload_n d_Mod_leans_36 rfl rfl ?_
    refine wp_iconst d_Mod_leans_37 (v := nI 1) rfl ?_
    refine wp_isub d_Mod_leans_38 ?_
    refine wp_istore d_Mod_leans_39 (by decide) ?_
    obtain ⟨sum_21, e40, h⟩ := ob1_some h
    refine l_Mod_leans_1 ?_ _ _ _ e40
    intro u5
    refine wp_iload_n d_Mod_leans_83 rfl rfl ?_
    refine wp_iconst d_Mod_leans_84 (v := nI 1) rfl ?_
    refine wp_iadd d_Mod_leans_85 ?_
    refine wp_istore d_Mod_leans_86 (by decide) ?_
    obtain ⟨sum_38, e39, h⟩ := ob1_some h
    refine l_Mod_leans_2 ?_ _ _ _ e39
    intro u5
    refine wp_iload d_Mod_leans_132 rfl ?_
    cases h
    exact wp_iret d_Mod_leans_134 rfl rfl rfl hq
  · replace h := ip h h13
    refine wp_sipush d_Mod_leans_16 (v := (-1000)) rfl ?_
    cases h
    exact wp_iret d_Mod_leans_19 rfl rfl rfl hq
end S1420
