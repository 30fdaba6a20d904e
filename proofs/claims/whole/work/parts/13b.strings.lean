/-! ===== the two texts of the Reader: the String's own methods ===== -/
section S13b
variable {X : mXs} {d : Nat} {f g : mI} {kn : Nat × Nat} {pc : Nat} {ls st : List Value} {Hm : mH} {M : mM} {Q : Option Value → mH → Prop}
def F_Math_max (a b : Int32) : Int32 := if a < b then b else a
def F_Math_min (a b : Int32) : Int32 := if b < a then b else a
def F_Math_abs (a : Int32) : Int32 := if 0 ≤ a then a else 0 - a
theorem wl_mmax {index : Nat} {x y : Int32} (hd : decode (ib f) pc = .ok (.invokestatic index, 3)) (hl : Lst (iy f).cls index f_Math_max) (hst : stOk st = true) (hk : kn.1 ≤ ic f ∧ kn.2 ≤ is_ f) (kk : wp X (d + 1) f kn (pc + 3) ls (.int (F_Math_max x y) :: st) Hm Q) : wp X (d + 1) f kn pc ls (.int y :: .int x :: st) Hm Q := by
  intro G p e s m args below meth c a H locs C hS hV hL hz
  have hw : ∀ w ∈ mW, w.before args s = true := fun w h => C.2.2.2.1 w (List.mem_cons_of_mem _ h)
  have hroom := st_room (G := G) (m := m) (pc := pc) (a := a) (st0 := []) hst
  exact va_mmax C.1 C.2.1 (by rw [C.2.2.2.2.2.1]; exact hL.2.1.symm) C.2.2.2.2.1 (hw _ hl.1) (hw _ hl.2) (hw _ lc_Math_max.2.1) (hw _ lc_Math_max.1) (Nat.le_add_left _ _) (by show ((st.map (tv G)).map fun v => v.category).sum + 13 ≤ 64 * (d + 1); omega) hk.1 hk.2 hd (kk G p e s m args below meth c a H locs C hS hV hL hz)
theorem wl_mmin {index : Nat} {x y : Int32} (hd : decode (ib f) pc = .ok (.invokestatic index, 3)) (hl : Lst (iy f).cls index f_Math_min) (hst : stOk st = true) (hk : kn.1 ≤ ic f ∧ kn.2 ≤ is_ f) (kk : wp X (d + 1) f kn (pc + 3) ls (.int (F_Math_min x y) :: st) Hm Q) : wp X (d + 1) f kn pc ls (.int y :: .int x :: st) Hm Q := by
  intro G p e s m args below meth c a H locs C hS hV hL hz
  have hw : ∀ w ∈ mW, w.before args s = true := fun w h => C.2.2.2.1 w (List.mem_cons_of_mem _ h)
  have hroom := st_room (G := G) (m := m) (pc := pc) (a := a) (st0 := []) hst
  exact va_mmin C.1 C.2.1 (by rw [C.2.2.2.2.2.1]; exact hL.2.1.symm) C.2.2.2.2.1 (hw _ hl.1) (hw _ hl.2) (hw _ lc_Math_min.2.1) (hw _ lc_Math_min.1) (Nat.le_add_left _ _) (by show ((st.map (tv G)).map fun v => v.category).sum + 13 ≤ 64 * (d + 1); omega) hk.1 hk.2 hd (kk G p e s m args below meth c a H locs C hS hV hL hz)
theorem wl_mabs {index : Nat} {x : Int32} (hd : decode (ib f) pc = .ok (.invokestatic index, 3)) (hl : Lst (iy f).cls index f_Math_abs) (hst : stOk st = true) (hk : kn.1 ≤ ic f ∧ kn.2 ≤ is_ f) (kk : wp X (d + 1) f kn (pc + 3) ls (.int (F_Math_abs x) :: st) Hm Q) : wp X (d + 1) f kn pc ls (.int x :: st) Hm Q := by
  intro G p e s m args below meth c a H locs C hS hV hL hz
  have hw : ∀ w ∈ mW, w.before args s = true := fun w h => C.2.2.2.1 w (List.mem_cons_of_mem _ h)
  have hroom := st_room (G := G) (m := m) (pc := pc) (a := a) (st0 := []) hst
  exact va_mabs C.1 C.2.1 (by rw [C.2.2.2.2.2.1]; exact hL.2.1.symm) C.2.2.2.2.1 (hw _ hl.1) (hw _ hl.2) (hw _ lc_Math_abs.2.1) (hw _ lc_Math_abs.1) (Nat.le_add_left _ _) (by show ((st.map (tv G)).map fun v => v.category).sum + 13 ≤ 64 * (d + 1); omega) hk.1 hk.2 hd (kk G p e s m args below meth c a H locs C hS hV hL hz)
theorem mC_str {G : mG} {p : Program} {s : State} {m : MethodId} {args : Array Value} {meth : Method} {c : Code} (C : mC G X f p s m args meth c) : mStr G s := C.2.2.2.2.2.2.2.2.1.2.2.2.1.2.2
theorem wx_ldc0 (hd : decode (ib f) pc = .ok (.ldc 107, 2)) (hc : (iy f).cls = "StuckRecord$Reader") (kk : wp X d f kn (pc + 2) ls (.ref (100000 + (100 + 0)) :: st) Hm Q) : wp X d f kn pc ls st Hm Q := by
  intro G p e s m args below meth c a H locs C hS hV hL hz
  have k1 := kk G p e s m args below meth c a H locs C hS hV hL hz
  rw [List.map_cons, tv_ref, ad_x] at k1
  exact va_ldcS C.1 C.2.1 (own := "StuckRecord$Reader") (by rw [← hc]; exact C.2.2.2.2.1) (mC_str C).1 hd k1
theorem wx_ldc1 (hd : decode (ib f) pc = .ok (.ldc 100, 2)) (hc : (iy f).cls = "StuckRecord$Reader") (kk : wp X d f kn (pc + 2) ls (.ref (100000 + (100 + 1)) :: st) Hm Q) : wp X d f kn pc ls st Hm Q := by
  intro G p e s m args below meth c a H locs C hS hV hL hz
  have k1 := kk G p e s m args below meth c a H locs C hS hV hL hz
  rw [List.map_cons, tv_ref, ad_x] at k1
  exact va_ldcS C.1 C.2.1 (own := "StuckRecord$Reader") (by rw [← hc]; exact C.2.2.2.2.1) (mC_str C).2.1 hd k1
theorem wp_sval {i index : Nat} (hi : i < 2) (hd : decode (ib f) pc = .ok (.getfield index, 3)) (hl : Cond.fieldLink (iy f).cls index "java/lang/String" "value" "[B" ∈ mW) (kk : wp X d f kn (pc + 3) ls (.ref (100000 + (200 + i)) :: st) Hm Q) : wp X d f kn pc ls (.ref (100000 + (100 + i)) :: st) Hm Q := by
  intro G p e s m args below meth c a H locs C hS hV hL hz
  have k1 := kk G p e s m args below meth c a H locs C hS hV hL hz
  rw [List.map_cons, tv_ref, ad_x] at k1
  rw [List.map_cons, tv_ref, ad_x]
  exact vk_getf C.1 C.2.1 ((mC_str C).2.2.1.1 i hi).2.2.1 hV C.2.2.2.2.1 (C.2.2.2.1 _ (List.mem_cons_of_mem _ hl)) (fun _ h => h) hd k1
theorem wp_scod {i index : Nat} (hi : i < 2) (hd : decode (ib f) pc = .ok (.getfield index, 3)) (hl : Cond.fieldLink (iy f).cls index "java/lang/String" "coder" "B" ∈ mW) (kk : wp X d f kn (pc + 3) ls (.int 0 :: st) Hm Q) : wp X d f kn pc ls (.ref (100000 + (100 + i)) :: st) Hm Q := by
  intro G p e s m args below meth c a H locs C hS hV hL hz
  have k1 := kk G p e s m args below meth c a H locs C hS hV hL hz
  rw [List.map_cons, tv_ref, ad_x]
  exact vk_getf C.1 C.2.1 ((mC_str C).2.2.1.1 i hi).2.1 hV C.2.2.2.2.1 (C.2.2.2.1 _ (List.mem_cons_of_mem _ hl)) (fun _ h => h) hd k1
theorem wp_sstC {index : Nat} (hd : decode (ib f) pc = .ok (.getstatic index, 3)) (hl : Cond.fieldLink (iy f).cls index "java/lang/String" "COMPACT_STRINGS" "Z" ∈ mW) (kk : wp X d f kn (pc + 3) ls (.int 1 :: st) Hm Q) : wp X d f kn pc ls st Hm Q := by
  intro G p e s m args below meth c a H locs C hS hV hL hz
  have k1 := kk G p e s m args below meth c a H locs C hS hV hL hz
  exact va_gets C.1 C.2.1 (mC_str C).2.2.2.1 hV C.2.2.2.2.1 (C.2.2.2.1 _ (List.mem_cons_of_mem _ hl)) (fun _ h => h) hd k1
theorem wp_sstF {index : Nat} (hd : decode (ib f) pc = .ok (.getstatic index, 3)) (hl : Cond.fieldLink (iy f).cls index "jdk/internal/util/Preconditions" "SIOOBE_FORMATTER" "Ljava/util/function/BiFunction;" ∈ mW) (kk : ∀ v : Value, v = .null ∨ v = .ref (100000 + 300) → wp X d f kn (pc + 3) ls (v :: st) Hm Q) : wp X d f kn pc ls st Hm Q := by
  intro G p e s m args below meth c a H locs C hS hV hL hz
  rcases (mC_str C).2.2.2.2 with hZ | hZ
  · have k1 := kk _ (Or.inl rfl) G p e s m args below meth c a H locs C hS hV hL hz
    rw [List.map_cons, tv_null] at k1
    exact va_gets C.1 C.2.1 hZ hV C.2.2.2.2.1 (C.2.2.2.1 _ (List.mem_cons_of_mem _ hl)) (fun _ h => h) hd k1
  · have k1 := kk _ (Or.inr rfl) G p e s m args below meth c a H locs C hS hV hL hz
    rw [List.map_cons, tv_ref, ad_x] at k1
    exact va_gets C.1 C.2.1 hZ hV C.2.2.2.2.1 (C.2.2.2.1 _ (List.mem_cons_of_mem _ hl)) (fun _ h => h) hd k1
theorem wp_blen {i : Nat} (hi : i < 2) (hd : decode (ib f) pc = .ok (.arraylength, 1)) (kk : wp X d f kn (pc + 1) ls (.int (nI (xSl.getD i 0)) :: st) Hm Q) : wp X d f kn pc ls (.ref (100000 + (200 + i)) :: st) Hm Q := by
  intro G p e s m args below meth c a H locs C hS hV hL hz
  have k1 := kk G p e s m args below meth c a H locs C hS hV hL hz
  rw [List.map_cons, tv_ref, ad_x]
  exact va_tlen C.1 C.2.1 ((mC_str C).2.2.1.1 i hi).2.2.2 hV (v := nI (xSl.getD i 0)) rfl hd k1
theorem wp_bald {i : Nat} {k : Int32} (hi : i < 2) (hd : decode (ib f) pc = .ok (.baload, 1)) (hk : inb (xSl.getD i 0) k = true) (kk : wp X d f kn (pc + 1) ls (.int ((xSb.getD i []).getD k.toNatClampNeg 0) :: st) Hm Q) : wp X d f kn pc ls (.int k :: .ref (100000 + (200 + i)) :: st) Hm Q := by
  intro G p e s m args below meth c a H locs C hS hV hL hz
  have k1 := kk G p e s m args below meth c a H locs C hS hV hL hz
  rw [List.map_cons, List.map_cons, tv_ref, ad_x]
  exact va_tb C.1 C.2.1 ((mC_str C).2.2.1.1 i hi).2.2.2 hV (ix_in (inb_ix hk).1 (inb_ix hk).2) rfl hd k1
theorem wp_i2b {x v : Int32} (hd : decode (ib f) pc = .ok (.i2b, 1)) (hv : x.toInt8.toInt32 = v) (k : wp X d f kn (pc + 1) ls (.int v :: st) Hm Q) : wp X d f kn pc ls (.int x :: st) Hm Q := by
  intro G p e s m args below meth c a H locs C hS hV hL hz
  exact lv_i2b C.1 C.2.1 hd hv (k G p e s m args below meth c a H locs C hS hV hL hz)
theorem wp_callVs {index n i : Nat} {as : List Value} {kn' : Nat × Nat} (hi : i < 2) (hd : decode (ib f) pc = .ok (.invokevirtual index, 3)) (hc : Lc g n) (hl : Lv (iy f).cls index g) (hn : as.length = n) (hst : stOk st = true)
    (hcl : (iy g).cls = "java/lang/String") (hkn : kn' = (kn.1 + ic g, kn.2 + is_ g)) (hf : kn.1 + ic g ≤ ic f ∧ kn.2 + is_ g ≤ is_ f)
    (k : Sp X d g (.ref (100000 + (100 + i)) :: as) Hm (fun r u => wp X (d + 1) f kn' (pc + 3) ls (r.toList ++ st) u Q)) : wp X (d + 1) f kn pc ls (as.reverse ++ .ref (100000 + (100 + i)) :: st) Hm Q := by
  intro G p e s m args below meth c a H locs C hS hV hL hz
  refine W_sized (fun hsz => ?_)
  have hH : H.size = gb G + Hm.length := by
    have h1 := mS_size hS (Nat.le_trans C.2.2.2.2.2.2.2.2.2 hV.1)
    omega
  have C' := C
  obtain ⟨hx, hb, hr, hts, hown, hml, hlk, hnm, hX, hbs⟩ := C
  obtain ⟨l1, l2, l3⟩ := hl
  obtain ⟨c1, c2, c3, c4⟩ := hc
  have hw : ∀ w ∈ mW, w.before args s = true := fun w h => hts w (List.mem_cons_of_mem _ h)
  have cb : CallB (mRm (d + 1) f) s args (iy f).cls index (iy g) (ib g) (il g) (ir g) (mw g) (mRm d g) (ic g) (is_ g) n :=
    callB_of (Ts := mw f) (ws' := mW) n hts (mw_good c1) rfl rfl rfl (hw _ c2) (hw _ l1) c3 (mRoom c4)
  have e0 : (as.reverse ++ .ref (100000 + (100 + i)) :: st).map (tv G) = (as.map (tv G)).reverse ++ .ref (ad G (100000 + (100 + i))) :: st.map (tv G) := by simp [tv_ref]
  have hrec : ∃ cellB : Cell, H[ad G (100000 + (100 + i))]? = some cellB ∧ cellB.vm.isStatics = false ∧ s.vm.findClass "java/lang/String" = some cellB.cls := by
    rw [ad_x]
    exact vk_recv (adK := fun i => gx G (100 + i)) (i := i) (mC_str C').2.2.1 hi hV
  have hpre := mPre (as := .ref (100000 + (100 + i)) :: as) C' hS hV hH
  have hp : PreV s H "java/lang/String" (ad G (100000 + (100 + i))) (mPc G X (.ref (100000 + (100 + i)) :: as) Hm) (as.map (tv G)) := ⟨mPc_blind, hrec, hpre⟩
  have hrun := va_runV (l := gl G) (p := p) (e := e) (below := below) (meth := meth) (locs := locs) (cells := kn.1) (slots := kn.2) (g := F0 m pc a ((as.map (tv G)).reverse ++ .ref (ad G (100000 + (100 + i))) :: st.map (tv G))) (rest := st.map (tv G)) (Ts := mw f) (cc := ib f) (nL := il f) (C := "java/lang/String") ⟨hx, hb, hml, hown, hts⟩ (k G) ⟨cb, hw _ l2, by rw [← hcl]; exact hw _ l3⟩ hp rfl (by rw [List.length_map]; exact hn) hL.2.1 rfl (st_room hst) hd hf
  rw [e0]
  exact mK_run C' hV hL hH hz hkn hrun
theorem lz_val : Cond.fieldLink "java/lang/String" 9 "java/lang/String" "value" "[B" ∈ mW := mW_at 1954 (by decide +kernel) rfl
theorem lz_cod : Cond.fieldLink "java/lang/String" 15 "java/lang/String" "coder" "B" ∈ mW := mW_at 1955 (by decide +kernel) rfl
theorem lz_com : Cond.fieldLink "java/lang/String" 38 "java/lang/String" "COMPACT_STRINGS" "Z" ∈ mW := mW_at 774 (by decide +kernel) rfl
theorem lz_for : Cond.fieldLink "java/lang/String" 1053 "jdk/internal/util/Preconditions" "SIOOBE_FORMATTER" "Ljava/util/function/BiFunction;" ∈ mW := mW_at 790 (by decide +kernel) rfl
theorem z_isLatin1 {i : Nat} (hi : i < 2) (hq : Q (some (.int 1)) Hm) : Sp X d f_String_isLatin1 [.ref (100000 + (100 + i))] Hm Q := by
  refine Sp_of (by decide) rfl (Nat.le_of_ble_eq_true rfl) ?_
  refine wp_sstC d_String_isLatin1_0 lz_com ?_
  refine wq_if_eq 17 d_String_isLatin1_3 rfl (fun h => absurd h (by decide)) (fun _ => ?_)
  refine wp_aload_n d_String_isLatin1_6 rfl rfl ?_
  refine wp_scod hi d_String_isLatin1_7 lz_cod ?_
  refine wq_if_ne 17 d_String_isLatin1_10 rfl (fun h => absurd rfl h) (fun _ => ?_)
  refine wp_iconst d_String_isLatin1_13 (v := 1) rfl ?_
  refine wp_goto 18 d_String_isLatin1_14 rfl ?_
  exact wp_iret d_String_isLatin1_18 rfl rfl rfl hq
theorem z_coder {i : Nat} (hi : i < 2) (hq : Q (some (.int 0)) Hm) : Sp X d f_String_coder [.ref (100000 + (100 + i))] Hm Q := by
  refine Sp_of (by decide) rfl (Nat.le_of_ble_eq_true rfl) ?_
  refine wp_sstC d_String_coder_0 lz_com ?_
  refine wq_if_eq 13 d_String_coder_3 rfl (fun h => absurd h (by decide)) (fun _ => ?_)
  refine wp_aload_n d_String_coder_6 rfl rfl ?_
  refine wp_scod hi d_String_coder_7 lz_cod ?_
  refine wp_goto 14 d_String_coder_10 rfl ?_
  exact wp_iret d_String_coder_14 rfl rfl rfl hq
theorem z_len0 {i : Nat} (hi : i < 2) : nI (xSl.getD i 0) >>> ((0 : Int32) &&& 31) = nI (xSl.getD i 0) := by
  match i, hi with
  | 0, _ => decide
  | 1, _ => decide
theorem z_length {i : Nat} (hi : i < 2) (hq : Q (some (.int (nI (xSl.getD i 0)))) Hm) : Sp X (d + 1) f_String_length [.ref (100000 + (100 + i))] Hm Q := by
  refine Sp_of (by decide) rfl (Nat.le_of_ble_eq_true rfl) ?_
  refine wp_aload_n d_String_length_0 rfl rfl ?_
  refine wp_sval hi d_String_length_1 lz_val ?_
  refine wp_blen hi d_String_length_4 ?_
  refine wp_aload_n d_String_length_5 rfl rfl ?_
  refine wp_callVs (as := []) hi d_String_length_6 lc_String_coder lv_String_335 rfl rfl rfl rfl ⟨by decide, by decide⟩ ?_
  refine z_coder hi ?_
  refine wp_ishr d_String_length_9 ?_
  rw [z_len0 hi]
  exact wp_iret d_String_length_10 rfl rfl rfl hq
theorem inb_lt {n : Nat} {k : Int32} (hn : n < 2147483648) (h : inb n k = true) : ¬ k < 0 ∧ k < nI n := by
  have h1 := inb_ix h
  refine ⟨ix_nl h1.1, ?_⟩
  rw [Int32.lt_iff_toInt_lt, nI_toInt hn]
  have h2 := h1.1
  unfold ix at h2
  omega
theorem z_preIndex {i n : Int32} {v : Value} (hv : v = .null ∨ v = .ref (100000 + 300)) (h0 : ¬ i < 0) (h1 : i < n) (hq : Q (some (.int i)) Hm) : Sp X d f_Preconditions_checkIndex [.int i, .int n, v] Hm Q := by
  refine Sp_of (by decide) (by rcases hv with rfl | rfl <;> rfl) (Nat.le_of_ble_eq_true rfl) ?_
  refine wp_iload_n d_Preconditions_checkIndex_0 rfl rfl ?_
  refine wq_if_lt 9 d_Preconditions_checkIndex_1 rfl (fun h => absurd h h0) (fun _ => ?_)
  refine wp_iload_n d_Preconditions_checkIndex_4 rfl rfl ?_
  refine wp_iload_n d_Preconditions_checkIndex_5 rfl rfl ?_
  refine wq_icmp_lt 16 d_Preconditions_checkIndex_6 rfl (fun _ => ?_) (fun h => absurd h1 h)
  refine wp_iload_n d_Preconditions_checkIndex_16 rfl rfl ?_
  exact wp_iret d_Preconditions_checkIndex_17 rfl rfl rfl hq
theorem z_checkIndex {i n : Int32} (h0 : ¬ i < 0) (h1 : i < n) (hq : Q none Hm) : Sp X (d + 1) f_String_checkIndex [.int i, .int n] Hm Q := by
  refine Sp_of (by decide) rfl (Nat.le_of_ble_eq_true rfl) ?_
  refine wp_iload_n d_String_checkIndex_0 rfl rfl ?_
  refine wp_iload_n d_String_checkIndex_1 rfl rfl ?_
  refine wp_sstF d_String_checkIndex_2 lz_for (fun v hv => ?_)
  refine wl_callS3 d_String_checkIndex_5 lc_Preconditions_checkIndex ls_String_1059 rfl ⟨rfl, rfl⟩ ⟨by decide, by decide⟩ ?_
  refine z_preIndex hv h0 h1 ?_
  refine wp_pop d_String_checkIndex_8 rfl ?_
  exact wp_ret d_String_checkIndex_9 rfl rfl hq
theorem xSl_lt {i : Nat} (hi : i < 2) : xSl.getD i 0 < 2147483648 := by
  match i, hi with
  | 0, _ => decide
  | 1, _ => decide
def sCh (i : Nat) (k : Int32) : Int32 := ji2c ((xSb.getD i []).getD k.toNatClampNeg 0 &&& 255)
theorem z_narC {x : Int32} : narrow .char (.int (ji2c x)) = .int (ji2c x) := by
  show Value.int (((x.toUInt32 % 65536).toInt32.toUInt32 % 65536).toInt32) = _
  unfold ji2c
  congr 2
  apply UInt32.toNat_inj.mp
  simp
theorem z_charAt1 {i : Nat} {k : Int32} (hi : i < 2) (hk : inb (xSl.getD i 0) k = true) (hq : Q (some (.int (sCh i k))) Hm) : Sp X (d + 2) f_StringLatin1_charAt [.ref (100000 + (200 + i)), .int k] Hm Q := by
  have hl := inb_lt (xSl_lt hi) hk
  refine Sp_of (by decide) rfl (Nat.le_of_ble_eq_true rfl) ?_
  refine wp_iload_n d_StringLatin1_charAt_0 rfl rfl ?_
  refine wp_aload_n d_StringLatin1_charAt_1 rfl rfl ?_
  refine wp_blen hi d_StringLatin1_charAt_2 ?_
  refine wl_callS2 d_StringLatin1_charAt_3 lc_String_checkIndex ls_StringLatin1_9 rfl ⟨rfl, rfl⟩ ⟨by decide, by decide⟩ ?_
  refine z_checkIndex (d := d) hl.1 hl.2 ?_
  refine wp_aload_n d_StringLatin1_charAt_6 rfl rfl ?_
  refine wp_iload_n d_StringLatin1_charAt_7 rfl rfl ?_
  refine wp_bald hi d_StringLatin1_charAt_8 hk ?_
  refine wp_sipush d_StringLatin1_charAt_9 (v := 255) rfl ?_
  refine wp_iand d_StringLatin1_charAt_12 ?_
  refine wp_i2c d_StringLatin1_charAt_13 (v := sCh i k) rfl ?_
  exact wp_iret d_StringLatin1_charAt_14 rfl z_narC rfl hq
theorem z_charAt {i : Nat} {k : Int32} (hi : i < 2) (hk : inb (xSl.getD i 0) k = true) (hq : Q (some (.int (sCh i k))) Hm) : Sp X (d + 3) f_String_charAt [.ref (100000 + (100 + i)), .int k] Hm Q := by
  refine Sp_of (by decide) rfl (Nat.le_of_ble_eq_true rfl) ?_
  refine wp_aload_n d_String_charAt_0 rfl rfl ?_
  refine wp_callVs (as := []) hi d_String_charAt_1 lc_String_isLatin1 lv_String_492 rfl rfl rfl rfl ⟨by decide, by decide⟩ ?_
  refine z_isLatin1 hi ?_
  refine wq_if_eq 16 d_String_charAt_4 rfl (fun h => absurd h (by decide)) (fun _ => ?_)
  refine wp_aload_n d_String_charAt_7 rfl rfl ?_
  refine wp_sval hi d_String_charAt_8 lz_val ?_
  refine wp_iload_n d_String_charAt_11 rfl rfl ?_
  refine wl_callS2 d_String_charAt_12 lc_StringLatin1_charAt ls_String_495 rfl ⟨rfl, rfl⟩ ⟨by decide, by decide⟩ ?_
  refine z_charAt1 (d := d) hi hk ?_
  exact wp_iret d_String_charAt_15 rfl z_narC rfl hq
/-- the keywords' text, a place -/
def xW0 (j : Nat) : Int32 := (xSb.getD 0 []).getD j 0
def chA0 (k : Int32) : Option Int32 := rxs xW0 142 k
theorem sCh_0 : ∀ j : Nat, j < 142 → ji2c ((xSb.getD 0 []).getD j 0 &&& 255) = xW0 j := by decide +kernel
theorem wx_chA0 {index : Nat} {k v : Int32} (hd : decode (ib f) pc = .ok (.invokevirtual index, 3)) (hl : Lv (iy f).cls index f_String_charAt) (h : chA0 k = some v) (hst : stOk st = true) (hk : kn.1 ≤ ic f ∧ kn.2 ≤ is_ f) (kk : wp X (d + 6) f kn (pc + 3) ls (.int v :: st) Hm Q) : wp X (d + 6) f kn pc ls (.int k :: .ref (100000 + (100 + 0)) :: st) Hm Q := by
  unfold chA0 rxs at h
  split at h
  · rename_i h1
    cases h
    refine wp_callVs (as := [.int k]) (i := 0) (by decide) hd lc_String_charAt hl rfl hst rfl (kn_eq ⟨rfl, rfl⟩) (kn_le ⟨rfl, rfl⟩ hk) ?_
    refine z_charAt (d := d + 2) (by decide) h1 ?_
    have e : sCh 0 k = xW0 k.toNatClampNeg := sCh_0 _ (inb_ix h1).2
    rw [e]
    exact kk
  · cases h
theorem wx_len0 {index : Nat} (hd : decode (ib f) pc = .ok (.invokevirtual index, 3)) (hl : Lv (iy f).cls index f_String_length) (hst : stOk st = true) (hk : kn.1 ≤ ic f ∧ kn.2 ≤ is_ f) (kk : wp X (d + 6) f kn (pc + 3) ls (.int (nI 142) :: st) Hm Q) : wp X (d + 6) f kn pc ls (.ref (100000 + (100 + 0)) :: st) Hm Q := by
  refine wp_callVs (as := []) (i := 0) (by decide) hd lc_String_length hl rfl hst rfl (kn_eq ⟨rfl, rfl⟩) (kn_le ⟨rfl, rfl⟩ hk) ?_
  exact z_length (d := d + 4) (by decide) kk
/-! indexOf -/
def sIxF (b : Int32) : List Int32 → Nat → Int32
  | [], _ => -1
  | x :: l, k => if x = b then nI k else sIxF b l (k + 1)
theorem z_ixLoop {ch b : Int32} : ∀ (l : List Int32) (k : Nat), k ≤ 10 → (xSb.getD 1 []).drop k = l → Q (some (.int (sIxF b l k))) Hm → wp X d f_StringLatin1_indexOfChar (0, 0) 7 [.ref (100000 + (200 + 1)), .int ch, .int (nI 0), .int (nI 10), .int b, .int (nI k)] [] Hm Q := by
  intro l
  have hlen : (xSb.getD 1 []).length = 10 := rfl
  induction l with
  | nil =>
    intro k hk e hq
    have hk2 : 10 ≤ k := by
      have := List.drop_eq_nil_iff.mp e
      omega
    refine wp_iload d_StringLatin1_indexOfChar_7 rfl ?_
    refine wp_iload_n d_StringLatin1_indexOfChar_9 rfl rfl ?_
    refine wn_icmp_ge 31 d_StringLatin1_indexOfChar_10 rfl (by omega) (by omega) (fun _ => ?_) (fun h => absurd h (by omega))
    refine wp_iconst d_StringLatin1_indexOfChar_31 (v := -1) rfl ?_
    exact wp_iret d_StringLatin1_indexOfChar_32 rfl rfl rfl hq
  | cons x l ih =>
    intro k hk e hq
    have hk2 : k < 10 := by
      apply Nat.lt_of_not_le
      intro hc
      rw [List.drop_eq_nil_iff.mpr (by omega)] at e
      cases e
    have hx : (xSb.getD 1 []).getD k 0 = x := by
      have h1 : ((xSb.getD 1 []).drop k)[0]? = some x := by rw [e]; rfl
      rw [List.getElem?_drop, Nat.add_zero] at h1
      rw [List.getD_eq_getElem?_getD, h1]; rfl
    have hl : (xSb.getD 1 []).drop (k + 1) = l := by
      have h1 : ((xSb.getD 1 []).drop k).drop 1 = l := by rw [e]; rfl
      rw [List.drop_drop] at h1
      exact h1
    have hin : inb (xSl.getD 1 0) (nI k) = true := by
      match k, hk2 with
      | 0, _ => decide
      | 1, _ => decide
      | 2, _ => decide
      | 3, _ => decide
      | 4, _ => decide
      | 5, _ => decide
      | 6, _ => decide
      | 7, _ => decide
      | 8, _ => decide
      | 9, _ => decide
    refine wp_iload d_StringLatin1_indexOfChar_7 rfl ?_
    refine wp_iload_n d_StringLatin1_indexOfChar_9 rfl rfl ?_
    refine wn_icmp_ge 31 d_StringLatin1_indexOfChar_10 rfl (by omega) (by omega) (fun h => absurd h (by omega)) (fun _ => ?_)
    refine wp_aload_n d_StringLatin1_indexOfChar_13 rfl rfl ?_
    refine wp_iload d_StringLatin1_indexOfChar_14 rfl ?_
    refine wp_bald (i := 1) (by decide) d_StringLatin1_indexOfChar_16 hin ?_
    have hc : (nI k).toNatClampNeg = k := ix_clamp (ix_nI (by omega))
    rw [hc, hx]
    refine wp_iload d_StringLatin1_indexOfChar_17 rfl ?_
    refine wq_icmp_ne 25 d_StringLatin1_indexOfChar_19 rfl (fun h => ?_) (fun h => ?_)
    · refine wn_iinc d_StringLatin1_indexOfChar_25 rfl ?_
      refine wp_goto 7 d_StringLatin1_indexOfChar_28 rfl ?_
      refine ih (k + 1) (by omega) hl ?_
      rw [sIxF, if_neg h] at hq
      exact hq
    · refine wp_iload d_StringLatin1_indexOfChar_22 rfl ?_
      rw [sIxF, if_pos h] at hq
      exact wp_iret d_StringLatin1_indexOfChar_24 rfl rfl rfl hq
theorem z_ixChar {ch : Int32} (hq : Q (some (.int (sIxF ch.toInt8.toInt32 (xSb.getD 1 []) 0))) Hm) : Sp X d f_StringLatin1_indexOfChar [.ref (100000 + (200 + 1)), .int ch, .int (nI 0), .int (nI 10)] Hm Q := by
  refine Sp_of (by decide) rfl (Nat.le_of_ble_eq_true rfl) ?_
  refine wp_iload_n d_StringLatin1_indexOfChar_0 rfl rfl ?_
  refine wp_i2b d_StringLatin1_indexOfChar_1 rfl ?_
  refine wp_istore d_StringLatin1_indexOfChar_2 (by decide) ?_
  refine wp_iload_n d_StringLatin1_indexOfChar_4 rfl rfl ?_
  refine wp_istore d_StringLatin1_indexOfChar_5 (by decide) ?_
  exact z_ixLoop (xSb.getD 1 []) 0 (by omega) rfl hq
def sIx (c : Int32) : Int32 := if c < 0 ∨ 255 < c then -1 else sIxF c.toInt8.toInt32 (xSb.getD 1 []) 0
theorem z_can {ch : Int32} (hq : Q (some (.int (bI (decide (¬ (ch < 0 ∨ 255 < ch)))))) Hm) : Sp X d f_StringLatin1_canEncode [.int ch] Hm Q := by
  refine Sp_of (by decide) rfl (Nat.le_of_ble_eq_true rfl) ?_
  have kJ : wp X d f_StringLatin1_canEncode (0, 0) 16 [.int ch] [.int (bI (decide (¬ (ch < 0 ∨ 255 < ch))))] Hm Q := wb_iret d_StringLatin1_canEncode_16 rfl rfl hq
  refine wp_iload_n d_StringLatin1_canEncode_0 rfl rfl ?_
  refine wq_if_lt 15 d_StringLatin1_canEncode_1 rfl (fun h => ?_) (fun h => ?_)
  · refine wp_iconst d_StringLatin1_canEncode_15 (v := nI 0) rfl ?_
    exact wj_f (fun z => z (Or.inl h)) kJ
  · refine wp_iload_n d_StringLatin1_canEncode_4 rfl rfl ?_
    refine wp_sipush d_StringLatin1_canEncode_5 (v := 255) rfl ?_
    refine wq_icmp_gt 15 d_StringLatin1_canEncode_8 rfl (fun h' => ?_) (fun h' => ?_)
    · refine wp_iconst d_StringLatin1_canEncode_15 (v := nI 0) rfl ?_
      exact wj_f (fun z => z (Or.inr h')) kJ
    · refine wp_iconst d_StringLatin1_canEncode_11 (v := nI 1) rfl ?_
      refine wp_goto 16 d_StringLatin1_canEncode_12 rfl ?_
      exact wj_t (fun z => z.elim h h') kJ
theorem z_ix1 {ch : Int32} (hq : Q (some (.int (sIx ch))) Hm) : Sp X (d + 1) f_StringLatin1_indexOf [.ref (100000 + (200 + 1)), .int ch, .int (nI 0), .int (nI 10)] Hm Q := by
  refine Sp_of (by decide) rfl (Nat.le_of_ble_eq_true rfl) ?_
  refine wp_iload_n d_StringLatin1_indexOf_0 rfl rfl ?_
  refine wl_callS1 d_StringLatin1_indexOf_1 lc_StringLatin1_canEncode ls_StringLatin1_88 rfl ⟨rfl, rfl⟩ ⟨by decide, by decide⟩ ?_
  refine z_can ?_
  refine wc_ne 9 d_StringLatin1_indexOf_4 rfl (fun h => ?_) (fun h => ?_)
  · have h1 := of_decide_eq_true h
    refine wp_iload_n d_StringLatin1_indexOf_9 rfl rfl ?_
    refine wp_iconst d_StringLatin1_indexOf_10 (v := nI 0) rfl ?_
    refine wl_mmax d_StringLatin1_indexOf_11 ls_StringLatin1_92 rfl ⟨by decide, by decide⟩ ?_
    rw [show F_Math_max (nI 0) (nI 0) = nI 0 from by decide]
    refine wp_istore_n d_StringLatin1_indexOf_14 rfl (by decide) ?_
    refine wp_iload_n d_StringLatin1_indexOf_15 rfl rfl ?_
    refine wp_aload_n d_StringLatin1_indexOf_16 rfl rfl ?_
    refine wp_blen (i := 1) (by decide) d_StringLatin1_indexOf_17 ?_
    refine wl_mmin d_StringLatin1_indexOf_18 ls_StringLatin1_38 rfl ⟨by decide, by decide⟩ ?_
    rw [show F_Math_min (nI 10) (nI (xSl.getD 1 0)) = nI 10 from by decide]
    refine wp_istore_n d_StringLatin1_indexOf_21 rfl (by decide) ?_
    refine wp_iload_n d_StringLatin1_indexOf_22 rfl rfl ?_
    refine wp_iload_n d_StringLatin1_indexOf_23 rfl rfl ?_
    refine wq_icmp_lt 29 d_StringLatin1_indexOf_24 rfl (fun _ => ?_) (fun h => absurd (by decide) h)
    refine wp_aload_n d_StringLatin1_indexOf_29 rfl rfl ?_
    refine wp_iload_n d_StringLatin1_indexOf_30 rfl rfl ?_
    refine wp_iload_n d_StringLatin1_indexOf_31 rfl rfl ?_
    refine wp_iload_n d_StringLatin1_indexOf_32 rfl rfl ?_
    refine wl_callS4 d_StringLatin1_indexOf_33 lc_StringLatin1_indexOfChar ls_StringLatin1_95 rfl ⟨rfl, rfl⟩ ⟨by decide, by decide⟩ ?_
    refine z_ixChar ?_
    rw [sIx, if_neg h1] at hq
    exact wp_iret d_StringLatin1_indexOf_36 rfl rfl rfl hq
  · have h1 : ch < 0 ∨ 255 < ch := Decidable.not_not.mp (fun z => h (decide_eq_true z))
    refine wp_iconst d_StringLatin1_indexOf_7 (v := -1) rfl ?_
    rw [sIx, if_pos h1] at hq
    exact wp_iret d_StringLatin1_indexOf_8 rfl rfl rfl hq
theorem z_ix2 {ch : Int32} (hq : Q (some (.int (sIx ch))) Hm) : Sp X (d + 2) f_String_indexOf_7cf53 [.ref (100000 + (100 + 1)), .int ch, .int (nI 0)] Hm Q := by
  refine Sp_of (by decide) rfl (Nat.le_of_ble_eq_true rfl) ?_
  refine wp_aload_n d_String_indexOf_7cf53_0 rfl rfl ?_
  refine wp_callVs (as := []) (i := 1) (by decide) d_String_indexOf_7cf53_1 lc_String_isLatin1 lv_String_492 rfl rfl rfl rfl ⟨by decide, by decide⟩ ?_
  refine z_isLatin1 (by decide) ?_
  refine wq_if_eq 23 d_String_indexOf_7cf53_4 rfl (fun h => absurd h (by decide)) (fun _ => ?_)
  refine wp_aload_n d_String_indexOf_7cf53_7 rfl rfl ?_
  refine wp_sval (i := 1) (by decide) d_String_indexOf_7cf53_8 lz_val ?_
  refine wp_iload_n d_String_indexOf_7cf53_11 rfl rfl ?_
  refine wp_iload_n d_String_indexOf_7cf53_12 rfl rfl ?_
  refine wp_aload_n d_String_indexOf_7cf53_13 rfl rfl ?_
  refine wp_callVs (as := []) (i := 1) (by decide) d_String_indexOf_7cf53_14 lc_String_length lv_String_505 rfl rfl rfl rfl ⟨by decide, by decide⟩ ?_
  refine z_length (d := d) (by decide) ?_
  refine wl_callS4 d_String_indexOf_7cf53_17 lc_StringLatin1_indexOf ls_String_637 rfl ⟨rfl, rfl⟩ ⟨by decide, by decide⟩ ?_
  refine z_ix1 ?_
  refine wp_goto 36 d_String_indexOf_7cf53_20 rfl ?_
  exact wp_iret d_String_indexOf_7cf53_36 rfl rfl rfl hq
theorem z_ix3 {ch : Int32} (hq : Q (some (.int (sIx ch))) Hm) : Sp X (d + 3) f_String_indexOf_0f7a4 [.ref (100000 + (100 + 1)), .int ch] Hm Q := by
  refine Sp_of (by decide) rfl (Nat.le_of_ble_eq_true rfl) ?_
  refine wp_aload_n d_String_indexOf_0f7a4_0 rfl rfl ?_
  refine wp_iload_n d_String_indexOf_0f7a4_1 rfl rfl ?_
  refine wp_iconst d_String_indexOf_0f7a4_2 (v := nI 0) rfl ?_
  refine wp_callVs (as := [.int ch, .int (nI 0)]) (i := 1) (by decide) d_String_indexOf_0f7a4_3 lc_String_indexOf_7cf53 lv_String_633 rfl rfl rfl rfl ⟨by decide, by decide⟩ ?_
  refine z_ix2 (d := d) ?_
  exact wp_iret d_String_indexOf_0f7a4_6 rfl rfl rfl hq
def ixO1 (c : Int32) : Option Int32 := some (sIx c)
theorem wx_ixO1 {index : Nat} {c v : Int32} (hd : decode (ib f) pc = .ok (.invokevirtual index, 3)) (hl : Lv (iy f).cls index f_String_indexOf_0f7a4) (h : ixO1 c = some v) (hst : stOk st = true) (hk : kn.1 ≤ ic f ∧ kn.2 ≤ is_ f) (kk : wp X (d + 6) f kn (pc + 3) ls (.int v :: st) Hm Q) : wp X (d + 6) f kn pc ls (.int c :: .ref (100000 + (100 + 1)) :: st) Hm Q := by
  cases h
  refine wp_callVs (as := [.int c]) (i := 1) (by decide) hd lc_String_indexOf_0f7a4 hl rfl hst rfl (kn_eq ⟨rfl, rfl⟩) (kn_le ⟨rfl, rfl⟩ hk) ?_
  exact z_ix3 (d := d + 2) kk
end S13b
