/-! Arrays.fill on any heap; the World's constructor -/
theorem wfill_loop {X : mXs} {d : Nat} {Hm : mH} {c0 n : Nat} {g : Nat → Int32} {v : Int32} {Q : Option Value → mH → Prop} (hc : c0 < Hm.length) (hn : n < 2147483648) (hQ : Q none (Hm.set c0 (.inl (0, n, fun i => if i < n then v else g i)))) : ∀ (k i : Nat), i + k = n → wp X d f_Arrays_fill (0, 0) 5 [.ref c0, .int v, .int (nI i), .int (nI n)] [] (Hm.set c0 (.inl (0, n, fun j => if j < i then v else g j))) Q := by
  intro k
  induction k with
  | zero =>
    intro i hi
    have e : i = n := by omega
    subst e
    refine wp_iload_n d_Arrays_fill_5 rfl rfl ?_
    refine wp_iload_n d_Arrays_fill_6 rfl rfl ?_
    refine wn_icmp_ge 20 d_Arrays_fill_7 rfl (by omega) (by omega) (fun _ => ?_) (fun h => absurd h (by omega))
    exact wp_ret d_Arrays_fill_20 rfl rfl hQ
  | succ k ih =>
    intro i hi
    refine wp_iload_n d_Arrays_fill_5 rfl rfl ?_
    refine wp_iload_n d_Arrays_fill_6 rfl rfl ?_
    refine wn_icmp_ge 20 d_Arrays_fill_7 rfl (by omega) (by omega) (fun h => absurd h (by omega)) (fun _ => ?_)
    refine wp_aload_n d_Arrays_fill_10 rfl rfl ?_
    refine wp_iload_n d_Arrays_fill_11 rfl rfl ?_
    refine wp_iload_n d_Arrays_fill_12 rfl rfl ?_
    refine wp_iast (n := n) (g := fun j => if j < i then v else g j) (j := i) d_Arrays_fill_13 (by rw [List.getElem?_set_self hc]) (ix_nI (by omega)) (by omega) ?_
    rw [List.set_set]
    have e : upd (fun j => if j < i then v else g j) i v = fun j => if j < i + 1 then v else g j := by
      funext j
      rw [upd]
      by_cases h1 : j = i
      · rw [if_pos h1, if_pos (by omega)]
      · rw [if_neg h1]
        by_cases h2 : j < i
        · rw [if_pos h2, if_pos (by omega)]
        · rw [if_neg h2, if_neg (by omega)]
    rw [e]
    refine wp_iinc d_Arrays_fill_14 (v := nI (i + 1)) rfl (by rw [← nadd]; rfl) ?_
    refine wp_goto 5 d_Arrays_fill_17 rfl ?_
    exact ih (i + 1) (by omega)
theorem sp_fill {X : mXs} {d : Nat} {Hm : mH} {c0 n : Nat} {g : Nat → Int32} {v : Int32} {Q : Option Value → mH → Prop} (hc : Hm[c0]? = some (.inl (0, n, g))) (hn : n < 2147483648) (hQ : Q none (Hm.set c0 (.inl (0, n, fun i => if i < n then v else g i)))) : Sp X d f_Arrays_fill [.ref c0, .int v] Hm Q := by
  refine Sp_of (by decide) rfl (Nat.le_of_ble_eq_true rfl) ?_
  have hl : c0 < Hm.length := (List.getElem?_eq_some_iff.mp hc).1
  refine wp_iconst d_Arrays_fill_0 (v := nI 0) rfl ?_
  refine wp_istore_n d_Arrays_fill_1 rfl (by decide) ?_
  refine wp_aload_n d_Arrays_fill_2 rfl rfl ?_
  refine wp_alen (v := nI n) d_Arrays_fill_3 hc rfl ?_
  refine wp_istore_n d_Arrays_fill_4 rfl (by decide) ?_
  have e : Hm = Hm.set c0 (.inl (0, n, fun j => if j < 0 then v else g j)) := by
    have e1 : (fun j : Nat => if j < 0 then v else g j) = g := by
      funext j
      exact if_neg (Nat.not_lt_zero j)
    rw [e1]
    apply List.ext_getElem?
    intro i
    by_cases hi : c0 = i
    · subst hi
      rw [List.getElem?_set_self hl, hc]
    · rw [List.getElem?_set_ne hi]
  have k := wfill_loop (X := X) (d := d) (Q := Q) (v := v) (g := g) hl hn hQ n 0 (by omega)
  rw [← e] at k
  exact k
theorem wb_fill {X : mXs} {d : Nat} {f : mI} {kn : Nat × Nat} {pc : Nat} {ls st : List Value} {Q : Option Value → mH → Prop} {B l l' : mH} {b index c0 n : Nat} {v : Int32} (hB : B.length = b) (hd : decode (ib f) pc = .ok (.invokestatic index, 3)) (hl : Lst (iy f).cls index f_Arrays_fill) (hst : stOk st = true) (hf : kn.1 ≤ ic f ∧ kn.2 ≤ is_ f) (hc : l[c0]? = some (.inl (0, n, fun _ => 0))) (hn : n < 2147483648) (hl' : l.set c0 (.inl (0, n, fun i => if i < n then v else 0)) = l')
    (kk : wp X (d + 1) f kn (pc + 3) ls st (B ++ l') Q) : wp X (d + 1) f kn pc ls (.int v :: .ref (b + c0) :: st) (B ++ l) Q := by
  refine wp_callS (g := f_Arrays_fill) (as := [.ref (b + c0), .int v]) (kn' := kn) hd lc_Arrays_fill hl rfl hst rfl hf ?_
  refine sp_fill (bl_at hB hc) hn ?_
  rw [bl_set hB, hl']
  exact kk
/-- the twenty Things of a World at b, of which k are made -/
def gth (b : Nat) : Nat → Nat → Int32
  | 0 => fun _ => -1
  | k + 1 => upd (gth b k) k (nI (b + (7 + k)))
def thE : mE := .inr (5, [.int (nI 0), .int (nI 0), .int (nI 1), .int (nI 0), .int (nI 0), .int (nI 0), .int (nI 6)])
def bkW (b k : Nat) : List mE := ([.inr (8, [.ref (b + 1), .ref (b + 2), .ref (b + 3), .ref (b + 4), .ref (b + 5), .int (nI 0), .int (nI 0), .int (nI 0), .int (nI 0), .int (nI 0), .int (nI 0), .int (nI 0), .int (nI 0)]), .inl (0, 60, fun i => if i < 60 then nI 50 else 0), .inl (0, 60, fun _ => 0), .inl (0, 60, fun i => if i < 60 then -1 else 0), .inl (1, 20, gth b k), .inr (4, [.int (nI 4), .int (nI 150), .ref (b + 6), .int (nI 0)]), .inl (0, 600, fun _ => 0)] : List mE) ++ List.replicate k thE
def bk_World (b : Nat) : List mE := bkW b 20
theorem bkW_len (b k : Nat) : (bkW b k).length = 7 + k := by
  rw [bkW, List.length_append, List.length_replicate]; rfl
theorem bkW_push (b k : Nat) : bkW b k ++ [thE] = ([.inr (8, [.ref (b + 1), .ref (b + 2), .ref (b + 3), .ref (b + 4), .ref (b + 5), .int (nI 0), .int (nI 0), .int (nI 0), .int (nI 0), .int (nI 0), .int (nI 0), .int (nI 0), .int (nI 0)]), .inl (0, 60, fun i => if i < 60 then nI 50 else 0), .inl (0, 60, fun _ => 0), .inl (0, 60, fun i => if i < 60 then -1 else 0), .inl (1, 20, gth b k), .inr (4, [.int (nI 4), .int (nI 150), .ref (b + 6), .int (nI 0)]), .inl (0, 600, fun _ => 0)] : List mE) ++ List.replicate (k + 1) thE := by
  rw [bkW, List.append_assoc, List.replicate_succ']
theorem bkW_last (b k : Nat) : (([.inr (8, [.ref (b + 1), .ref (b + 2), .ref (b + 3), .ref (b + 4), .ref (b + 5), .int (nI 0), .int (nI 0), .int (nI 0), .int (nI 0), .int (nI 0), .int (nI 0), .int (nI 0), .int (nI 0)]), .inl (0, 60, fun i => if i < 60 then nI 50 else 0), .inl (0, 60, fun _ => 0), .inl (0, 60, fun i => if i < 60 then -1 else 0), .inl (1, 20, gth b k), .inr (4, [.int (nI 4), .int (nI 150), .ref (b + 6), .int (nI 0)]), .inl (0, 600, fun _ => 0)] : List mE) ++ List.replicate (k + 1) thE)[7 + k]? = some thE := by
  rw [List.getElem?_append_right (by show 7 ≤ 7 + k; omega)]
  rw [List.getElem?_replicate]
  exact if_pos (by show 7 + k - 7 < k + 1; omega)
theorem bkW_set (b k : Nat) : (([.inr (8, [.ref (b + 1), .ref (b + 2), .ref (b + 3), .ref (b + 4), .ref (b + 5), .int (nI 0), .int (nI 0), .int (nI 0), .int (nI 0), .int (nI 0), .int (nI 0), .int (nI 0), .int (nI 0)]), .inl (0, 60, fun i => if i < 60 then nI 50 else 0), .inl (0, 60, fun _ => 0), .inl (0, 60, fun i => if i < 60 then -1 else 0), .inl (1, 20, gth b k), .inr (4, [.int (nI 4), .int (nI 150), .ref (b + 6), .int (nI 0)]), .inl (0, 600, fun _ => 0)] : List mE) ++ List.replicate (k + 1) thE).set 4 (.inl (1, 20, upd (gth b k) k (nI (b + (7 + k))))) = bkW b (k + 1) := rfl
theorem world_loop {X : mXs} {d : Nat} {B : mH} {b : Nat} {Q : Option Value → mH → Prop} (hB : B.length = b) (hb : b ≤ 50000) (hQ : Q none (B ++ bk_World b)) : ∀ (j k : Nat), k + j = 20 → wp X (d + 2) f_World_init (6 + k, 804 + 7 * k) 111 [.ref (b + 0), .int (nI k)] [] (B ++ bkW b k) Q := by
  intro j
  induction j with
  | zero =>
    intro k hk
    have e : k = 20 := by omega
    subst e
    refine wp_iload_n d_World_init_111 rfl rfl ?_
    refine wp_bipush (v := nI 20) d_World_init_112 rfl ?_
    refine wn_icmp_ge 136 d_World_init_114 rfl (by omega) (by omega) (fun _ => ?_) (fun h => absurd h (by omega))
    exact wp_ret d_World_init_136 rfl rfl hQ
  | succ j ih =>
    intro k hk
    refine wp_iload_n d_World_init_111 rfl rfl ?_
    refine wp_bipush (v := nI 20) d_World_init_112 rfl ?_
    refine wn_icmp_ge 136 d_World_init_114 rfl (by omega) (by omega) (fun h => absurd h (by omega)) (fun _ => ?_)
    refine wp_aload_n d_World_init_117 rfl rfl ?_
    refine wb_get (j := 0) hB d_World_init_118 lf_World_23 rfl rfl ?_
    refine wp_iload_n d_World_init_121 rfl rfl ?_
    refine wb_new (n := 7 + k) (kn' := (6 + k + 1, 804 + 7 * k + 7)) (l' := bkW b k ++ [.inr (5, dF_Thing)]) hB d_World_init_122 ln_World_21 rfl (by show 6 + k + 1 ≤ 26; omega) (by show 804 + 7 * k + 7 ≤ 944; omega) (bkW_len b k) (by omega) rfl ?_
    refine wp_dup d_World_init_125 rfl ?_
    refine wb_initN (g := f_Thing_init) (as := []) (st := [.ref (b + (7 + k)), .int (nI k), .ref (b + 4)]) (j := 7 + k) (kn' := (6 + k + 1, 804 + 7 * k + 7)) (blk := bk_Thing) (l0 := bkW b k) (l' := ([.inr (8, [.ref (b + 1), .ref (b + 2), .ref (b + 3), .ref (b + 4), .ref (b + 5), .int (nI 0), .int (nI 0), .int (nI 0), .int (nI 0), .int (nI 0), .int (nI 0), .int (nI 0), .int (nI 0)]), .inl (0, 60, fun i => if i < 60 then nI 50 else 0), .inl (0, 60, fun _ => 0), .inl (0, 60, fun i => if i < 60 then -1 else 0), .inl (1, 20, gth b k), .inr (4, [.int (nI 4), .int (nI 150), .ref (b + 6), .int (nI 0)]), .inl (0, 600, fun _ => 0)] : List mE) ++ List.replicate (k + 1) thE) _ rfl hB d_World_init_126 lc_Thing_init lin_World_67 rfl rfl rfl ⟨by show 6 + k + 1 ≤ 26; omega, by show 804 + 7 * k + 7 ≤ 944; omega⟩ (con_Thing (d := d)) rfl (bkW_len b k) (by omega) (bkW_push b k) ?_
    refine wp_aast (c0 := b + 4) (n := 20) (j := k) (c1 := b + (7 + k)) (g := gth b k) (x := nI (b + (7 + k))) d_World_init_129 (bl_at hB rfl) (ix_nI (by omega)) (by omega) (bl_at hB (bkW_last b k)) (ix_nI (by omega)) ?_
    rw [bl_set hB, bkW_set]
    refine wp_iinc d_World_init_130 (v := nI (k + 1)) rfl (by rw [← nadd]; rfl) ?_
    refine wp_goto 111 d_World_init_133 rfl ?_
    have k1 := ih (k + 1) (by omega)
    rw [show 804 + 7 * (k + 1) = 804 + 7 * k + 7 by omega, show 6 + (k + 1) = 6 + k + 1 by omega] at k1
    exact k1
theorem con_World {X : mXs} {d : Nat} : Con 50000 X (d + 2) f_World_init [] 8 dF_World bk_World := by
  intro B b Q hB hb hQ
  refine Sp_of rfl rfl (q_leb rfl) ?_
  refine wp_aload_n d_World_init_0 rfl rfl ?_
  refine wp_objI d_World_init_1 lo_World oI2 oI3 ?_
  refine wp_aload_n d_World_init_4 rfl rfl ?_
  refine wp_bipush (v := nI 60) d_World_init_5 rfl ?_
  refine wb_newa (n := 1) (m := 60) (kn' := (1, 60)) (l' := ([.inr (8, dF_World), .inl (0, 60, fun _ => 0)] : List mE)) hB d_World_init_7 (ix_nI (by decide)) (by decide) rfl (by decide) (by decide) rfl (by omega) rfl ?_
  refine wb_put (j := 0) (l' := ([.inr (8, [.ref (b + 1), .null, .null, .null, .null, .int 0, .int 0, .int 0, .int 0, .int 0, .int 0, .int 0, .int 0]), .inl (0, 60, fun _ => 0)] : List mE)) hB d_World_init_9 lp_World_9 (fun _ => rfl) rfl (q_ltb rfl) (fun _ => ⟨rfl, rfl⟩) rfl ?_
  refine wp_aload_n d_World_init_12 rfl rfl ?_
  refine wp_bipush (v := nI 60) d_World_init_13 rfl ?_
  refine wb_newa (n := 2) (m := 60) (kn' := (2, 120)) (l' := ([.inr (8, [.ref (b + 1), .null, .null, .null, .null, .int 0, .int 0, .int 0, .int 0, .int 0, .int 0, .int 0, .int 0]), .inl (0, 60, fun _ => 0), .inl (0, 60, fun _ => 0)] : List mE)) hB d_World_init_15 (ix_nI (by decide)) (by decide) rfl (by decide) (by decide) rfl (by omega) rfl ?_
  refine wb_put (j := 0) (l' := ([.inr (8, [.ref (b + 1), .ref (b + 2), .null, .null, .null, .int 0, .int 0, .int 0, .int 0, .int 0, .int 0, .int 0, .int 0]), .inl (0, 60, fun _ => 0), .inl (0, 60, fun _ => 0)] : List mE)) hB d_World_init_17 lp_World_15 (fun _ => rfl) rfl (q_ltb rfl) (fun _ => ⟨rfl, rfl⟩) rfl ?_
  refine wp_aload_n d_World_init_20 rfl rfl ?_
  refine wp_bipush (v := nI 60) d_World_init_21 rfl ?_
  refine wb_newa (n := 3) (m := 60) (kn' := (3, 180)) (l' := ([.inr (8, [.ref (b + 1), .ref (b + 2), .null, .null, .null, .int 0, .int 0, .int 0, .int 0, .int 0, .int 0, .int 0, .int 0]), .inl (0, 60, fun _ => 0), .inl (0, 60, fun _ => 0), .inl (0, 60, fun _ => 0)] : List mE)) hB d_World_init_23 (ix_nI (by decide)) (by decide) rfl (by decide) (by decide) rfl (by omega) rfl ?_
  refine wb_put (j := 0) (l' := ([.inr (8, [.ref (b + 1), .ref (b + 2), .ref (b + 3), .null, .null, .int 0, .int 0, .int 0, .int 0, .int 0, .int 0, .int 0, .int 0]), .inl (0, 60, fun _ => 0), .inl (0, 60, fun _ => 0), .inl (0, 60, fun _ => 0)] : List mE)) hB d_World_init_25 lp_World_18 (fun _ => rfl) rfl (q_ltb rfl) (fun _ => ⟨rfl, rfl⟩) rfl ?_
  refine wp_aload_n d_World_init_28 rfl rfl ?_
  refine wp_bipush (v := nI 20) d_World_init_29 rfl ?_
  refine wb_anew (t := 1) (n := 4) (m := 20) (kn' := (4, 200)) (l' := ([.inr (8, [.ref (b + 1), .ref (b + 2), .ref (b + 3), .null, .null, .int 0, .int 0, .int 0, .int 0, .int 0, .int 0, .int 0, .int 0]), .inl (0, 60, fun _ => 0), .inl (0, 60, fun _ => 0), .inl (0, 60, fun _ => 0), .inl (1, 20, fun _ => -1)] : List mE)) hB d_World_init_31 lan_World_21 (Or.inl ⟨rfl, rfl⟩) (ix_nI (by decide)) (by decide) rfl (by decide) (by decide) rfl (by omega) rfl ?_
  refine wb_put (j := 0) (l' := ([.inr (8, [.ref (b + 1), .ref (b + 2), .ref (b + 3), .ref (b + 4), .null, .int 0, .int 0, .int 0, .int 0, .int 0, .int 0, .int 0, .int 0]), .inl (0, 60, fun _ => 0), .inl (0, 60, fun _ => 0), .inl (0, 60, fun _ => 0), .inl (1, 20, fun _ => -1)] : List mE)) hB d_World_init_34 lp_World_23 (fun _ => rfl) rfl (q_ltb rfl) (fun _ => ⟨rfl, rfl⟩) rfl ?_
  refine wp_aload_n d_World_init_37 rfl rfl ?_
  refine wb_new (n := 5) (kn' := (5, 204)) (l' := ([.inr (8, [.ref (b + 1), .ref (b + 2), .ref (b + 3), .ref (b + 4), .null, .int 0, .int 0, .int 0, .int 0, .int 0, .int 0, .int 0, .int 0]), .inl (0, 60, fun _ => 0), .inl (0, 60, fun _ => 0), .inl (0, 60, fun _ => 0), .inl (1, 20, fun _ => -1), .inr (4, dF_Rows)] : List mE)) hB d_World_init_38 ln_World_27 rfl (by decide) (by decide) rfl (by omega) rfl ?_
  refine wp_dup d_World_init_41 rfl ?_
  refine wp_iconst (v := nI 4) d_World_init_42 rfl ?_
  refine wp_sipush (v := nI 150) d_World_init_43 rfl ?_
  refine wb_init (g := f_Rows_init 600) (as := [.int (nI 4), .int (nI 150)]) (st := [.ref (b + 5), .ref (b + 0)]) (j := 5) (kn' := (6, 804)) (blk := bk_Rows 4 150) (l0 := ([.inr (8, [.ref (b + 1), .ref (b + 2), .ref (b + 3), .ref (b + 4), .null, .int 0, .int 0, .int 0, .int 0, .int 0, .int 0, .int 0, .int 0]), .inl (0, 60, fun _ => 0), .inl (0, 60, fun _ => 0), .inl (0, 60, fun _ => 0), .inl (1, 20, fun _ => -1)] : List mE)) (l' := ([.inr (8, [.ref (b + 1), .ref (b + 2), .ref (b + 3), .ref (b + 4), .null, .int 0, .int 0, .int 0, .int 0, .int 0, .int 0, .int 0, .int 0]), .inl (0, 60, fun _ => 0), .inl (0, 60, fun _ => 0), .inl (0, 60, fun _ => 0), .inl (1, 20, fun _ => -1), .inr (4, [.int (nI 4), .int (nI 150), .ref (b + 6), .int (nI 0)]), .inl (0, 600, fun _ => 0)] : List mE)) _ rfl hB d_World_init_46 (lc_Rows_init 600) (li_World_29 600) rfl rfl rfl (by decide) (con_Rows (d := d) 4 150 (by decide) (by decide)) rfl rfl (by omega) rfl ?_
  refine wb_put (j := 0) (l' := ([.inr (8, [.ref (b + 1), .ref (b + 2), .ref (b + 3), .ref (b + 4), .ref (b + 5), .int 0, .int 0, .int 0, .int 0, .int 0, .int 0, .int 0, .int 0]), .inl (0, 60, fun _ => 0), .inl (0, 60, fun _ => 0), .inl (0, 60, fun _ => 0), .inl (1, 20, fun _ => -1), .inr (4, [.int (nI 4), .int (nI 150), .ref (b + 6), .int (nI 0)]), .inl (0, 600, fun _ => 0)] : List mE)) hB d_World_init_49 lp_World_32 (fun _ => rfl) rfl (q_ltb rfl) (fun _ => ⟨rfl, rfl⟩) rfl ?_
  refine wp_aload_n d_World_init_52 rfl rfl ?_
  refine wp_iconst (v := nI 0) d_World_init_53 rfl ?_
  refine wb_put (j := 0) (l' := ([.inr (8, [.ref (b + 1), .ref (b + 2), .ref (b + 3), .ref (b + 4), .ref (b + 5), .int (nI 0), .int 0, .int 0, .int 0, .int 0, .int 0, .int 0, .int 0]), .inl (0, 60, fun _ => 0), .inl (0, 60, fun _ => 0), .inl (0, 60, fun _ => 0), .inl (1, 20, fun _ => -1), .inr (4, [.int (nI 4), .int (nI 150), .ref (b + 6), .int (nI 0)]), .inl (0, 600, fun _ => 0)] : List mE)) hB d_World_init_54 lp_World_36 (fun _ => rfl) rfl (q_ltb rfl) (fun _ => ⟨rfl, rfl⟩) rfl ?_
  refine wp_aload_n d_World_init_57 rfl rfl ?_
  refine wp_iconst (v := nI 0) d_World_init_58 rfl ?_
  refine wb_put (j := 0) (l' := ([.inr (8, [.ref (b + 1), .ref (b + 2), .ref (b + 3), .ref (b + 4), .ref (b + 5), .int (nI 0), .int (nI 0), .int 0, .int 0, .int 0, .int 0, .int 0, .int 0]), .inl (0, 60, fun _ => 0), .inl (0, 60, fun _ => 0), .inl (0, 60, fun _ => 0), .inl (1, 20, fun _ => -1), .inr (4, [.int (nI 4), .int (nI 150), .ref (b + 6), .int (nI 0)]), .inl (0, 600, fun _ => 0)] : List mE)) hB d_World_init_59 lp_World_40 (fun _ => rfl) rfl (q_ltb rfl) (fun _ => ⟨rfl, rfl⟩) rfl ?_
  refine wp_aload_n d_World_init_62 rfl rfl ?_
  refine wp_iconst (v := nI 0) d_World_init_63 rfl ?_
  refine wb_put (j := 0) (l' := ([.inr (8, [.ref (b + 1), .ref (b + 2), .ref (b + 3), .ref (b + 4), .ref (b + 5), .int (nI 0), .int (nI 0), .int (nI 0), .int 0, .int 0, .int 0, .int 0, .int 0]), .inl (0, 60, fun _ => 0), .inl (0, 60, fun _ => 0), .inl (0, 60, fun _ => 0), .inl (1, 20, fun _ => -1), .inr (4, [.int (nI 4), .int (nI 150), .ref (b + 6), .int (nI 0)]), .inl (0, 600, fun _ => 0)] : List mE)) hB d_World_init_64 lp_World_43 (fun _ => rfl) rfl (q_ltb rfl) (fun _ => ⟨rfl, rfl⟩) rfl ?_
  refine wp_aload_n d_World_init_67 rfl rfl ?_
  refine wp_iconst (v := nI 0) d_World_init_68 rfl ?_
  refine wb_put (j := 0) (l' := ([.inr (8, [.ref (b + 1), .ref (b + 2), .ref (b + 3), .ref (b + 4), .ref (b + 5), .int (nI 0), .int (nI 0), .int (nI 0), .int (nI 0), .int 0, .int 0, .int 0, .int 0]), .inl (0, 60, fun _ => 0), .inl (0, 60, fun _ => 0), .inl (0, 60, fun _ => 0), .inl (1, 20, fun _ => -1), .inr (4, [.int (nI 4), .int (nI 150), .ref (b + 6), .int (nI 0)]), .inl (0, 600, fun _ => 0)] : List mE)) hB d_World_init_69 lp_World_46 (fun _ => rfl) rfl (q_ltb rfl) (fun _ => ⟨rfl, rfl⟩) rfl ?_
  refine wp_aload_n d_World_init_72 rfl rfl ?_
  refine wp_iconst (v := nI 0) d_World_init_73 rfl ?_
  refine wb_put (j := 0) (l' := ([.inr (8, [.ref (b + 1), .ref (b + 2), .ref (b + 3), .ref (b + 4), .ref (b + 5), .int (nI 0), .int (nI 0), .int (nI 0), .int (nI 0), .int (nI 0), .int 0, .int 0, .int 0]), .inl (0, 60, fun _ => 0), .inl (0, 60, fun _ => 0), .inl (0, 60, fun _ => 0), .inl (1, 20, fun _ => -1), .inr (4, [.int (nI 4), .int (nI 150), .ref (b + 6), .int (nI 0)]), .inl (0, 600, fun _ => 0)] : List mE)) hB d_World_init_74 lp_World_49 (fun _ => rfl) rfl (q_ltb rfl) (fun _ => ⟨rfl, rfl⟩) rfl ?_
  refine wp_aload_n d_World_init_77 rfl rfl ?_
  refine wp_iconst (v := nI 0) d_World_init_78 rfl ?_
  refine wb_put (j := 0) (l' := ([.inr (8, [.ref (b + 1), .ref (b + 2), .ref (b + 3), .ref (b + 4), .ref (b + 5), .int (nI 0), .int (nI 0), .int (nI 0), .int (nI 0), .int (nI 0), .int (nI 0), .int 0, .int 0]), .inl (0, 60, fun _ => 0), .inl (0, 60, fun _ => 0), .inl (0, 60, fun _ => 0), .inl (1, 20, fun _ => -1), .inr (4, [.int (nI 4), .int (nI 150), .ref (b + 6), .int (nI 0)]), .inl (0, 600, fun _ => 0)] : List mE)) hB d_World_init_79 lp_World_52 (fun _ => rfl) rfl (q_ltb rfl) (fun _ => ⟨rfl, rfl⟩) rfl ?_
  refine wp_aload_n d_World_init_82 rfl rfl ?_
  refine wp_iconst (v := nI 0) d_World_init_83 rfl ?_
  refine wb_put (j := 0) (l' := ([.inr (8, [.ref (b + 1), .ref (b + 2), .ref (b + 3), .ref (b + 4), .ref (b + 5), .int (nI 0), .int (nI 0), .int (nI 0), .int (nI 0), .int (nI 0), .int (nI 0), .int (nI 0), .int 0]), .inl (0, 60, fun _ => 0), .inl (0, 60, fun _ => 0), .inl (0, 60, fun _ => 0), .inl (1, 20, fun _ => -1), .inr (4, [.int (nI 4), .int (nI 150), .ref (b + 6), .int (nI 0)]), .inl (0, 600, fun _ => 0)] : List mE)) hB d_World_init_84 lp_World_55 (fun _ => rfl) rfl (q_ltb rfl) (fun _ => ⟨rfl, rfl⟩) rfl ?_
  refine wp_aload_n d_World_init_87 rfl rfl ?_
  refine wp_iconst (v := nI 0) d_World_init_88 rfl ?_
  refine wb_put (j := 0) (l' := ([.inr (8, [.ref (b + 1), .ref (b + 2), .ref (b + 3), .ref (b + 4), .ref (b + 5), .int (nI 0), .int (nI 0), .int (nI 0), .int (nI 0), .int (nI 0), .int (nI 0), .int (nI 0), .int (nI 0)]), .inl (0, 60, fun _ => 0), .inl (0, 60, fun _ => 0), .inl (0, 60, fun _ => 0), .inl (1, 20, fun _ => -1), .inr (4, [.int (nI 4), .int (nI 150), .ref (b + 6), .int (nI 0)]), .inl (0, 600, fun _ => 0)] : List mE)) hB d_World_init_89 lp_World_58 (fun _ => rfl) rfl (q_ltb rfl) (fun _ => ⟨rfl, rfl⟩) rfl ?_
  refine wp_aload_n d_World_init_92 rfl rfl ?_
  refine wb_get (j := 0) hB d_World_init_93 lf_World_9 rfl rfl ?_
  refine wp_bipush (v := nI 50) d_World_init_96 rfl ?_
  refine wb_fill (c0 := 1) (n := 60) (l' := ([.inr (8, [.ref (b + 1), .ref (b + 2), .ref (b + 3), .ref (b + 4), .ref (b + 5), .int (nI 0), .int (nI 0), .int (nI 0), .int (nI 0), .int (nI 0), .int (nI 0), .int (nI 0), .int (nI 0)]), .inl (0, 60, fun i => if i < 60 then nI 50 else 0), .inl (0, 60, fun _ => 0), .inl (0, 60, fun _ => 0), .inl (1, 20, fun _ => -1), .inr (4, [.int (nI 4), .int (nI 150), .ref (b + 6), .int (nI 0)]), .inl (0, 600, fun _ => 0)] : List mE)) hB d_World_init_98 ls_World_61 rfl (by decide) rfl (by decide) rfl ?_
  refine wp_aload_n d_World_init_101 rfl rfl ?_
  refine wb_get (j := 0) hB d_World_init_102 lf_World_18 rfl rfl ?_
  refine wp_iconst (v := -1) d_World_init_105 rfl ?_
  refine wb_fill (c0 := 3) (n := 60) (l' := ([.inr (8, [.ref (b + 1), .ref (b + 2), .ref (b + 3), .ref (b + 4), .ref (b + 5), .int (nI 0), .int (nI 0), .int (nI 0), .int (nI 0), .int (nI 0), .int (nI 0), .int (nI 0), .int (nI 0)]), .inl (0, 60, fun i => if i < 60 then nI 50 else 0), .inl (0, 60, fun _ => 0), .inl (0, 60, fun i => if i < 60 then -1 else 0), .inl (1, 20, fun _ => -1), .inr (4, [.int (nI 4), .int (nI 150), .ref (b + 6), .int (nI 0)]), .inl (0, 600, fun _ => 0)] : List mE)) hB d_World_init_106 ls_World_61 rfl (by decide) rfl (by decide) rfl ?_
  refine wp_iconst (v := nI 0) d_World_init_109 rfl ?_
  refine wp_istore_n d_World_init_110 rfl (by decide) ?_
  exact world_loop hB hb hQ 20 0 (by omega)
