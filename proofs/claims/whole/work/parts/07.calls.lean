/-! ===== calls ===== -/
def mPc (G : mG) (X : mXs) (as : List Value) (Hm : mH) : Array Value → State → Prop := fun v U => v = (as.map (tv G)).toArray ∧ mS G Hm U.heap ∧ mX G X U ∧ U.heap.size = gb G + Hm.length
theorem mPc_blind {G : mG} {X : mXs} {as : List Value} {Hm : mH} : FrameBlind (mPc G X as Hm) := by
  intro a U g mk h
  exact ⟨h.1, h.2.1, mX_same (U := U) (U' := U.calling g mk a) rfl rfl h.2.2.1, h.2.2.2⟩
section MK
variable {X : mXs} {d : Nat} {f g : mI} {kn : Nat × Nat} {pc : Nat} {ls st : List Value} {Hm : mH} {Q : Option Value → mH → Prop}
/-- behind a call: the machine goes on with what came back -/
theorem mK_run {G : mG} {p : Program} {e : Env} {s : State} {m : MethodId} {args : Array Value} {below : List Frame} {meth : Method} {c : Code} {a : Array Slot} {H : Heap} {locs : List Loc} {st0 : List Value} {av : Array Value} {kn' : Nat × Nat}
    (C : mC G X f p s m args meth c) (hV : va_S (mA G) s.heap H locs) (hL : mL G (il f) ls a) (hH : H.size = gb G + Hm.length) (hz : s.heap.size + kn.1 = gb G + Hm.length) (hkn : kn' = (kn.1 + ic g, kn.2 + is_ g))
    (hr : va_Run p (gl G) e (mRm d f) s m args below meth c H locs kn.1 kn.2 (ic g) (is_ g) (F0 m pc a st0) (st.map (tv G)) (mQ G g (fun r u => wp X d f kn' (pc + 3) ls (r.toList ++ st) u Q) av) (mA G)) :
    W p (gl G) e (mRm d f) s m args below meth c H locs kn.1 kn.2 (MQ below (mQ G f Q) args s (ic f) (is_ f) (mA G)) (F0 m pc a st0) := by
  intro T hT S
  obtain ⟨v, st₀, t, T', L, h0, S', hL', e1, e2, ⟨⟨r, u, hv, hq, hu, hn⟩, hz1, hk⟩, go⟩ := hr T hT S
  cases hv
  rw [h0] at hz1 hk hn
  have hV' : va_S (mA G) s.heap T'.heap (locs ++ L) := by
    refine ⟨Nat.le_trans hV.1 (by rw [e1]; exact hz1), fun q h1 h2 => ?_, fun q hq => ?_⟩
    · rw [e1, hk q (Nat.lt_of_lt_of_le h1 hV.1) h2]
      exact hV.2.1 q h1 h2
    · rcases List.mem_append.mp hq with h | h
      · exact hV.2.2 q h
      · exact hL' q h
  subst hkn
  have hz' : s.heap.size + (kn.1 + ic g) = gb G + u.length := by omega
  obtain ⟨t2, a1, b1⟩ := hq G p e s m args below meth c a T'.heap (locs ++ L) C (by rw [e1]; exact hu) hV' hL hz' T' rfl S'
  refine ⟨t2, go t2 ?_, b1⟩
  have e3 : (r.toList ++ st).map (tv G) = (r.map (tv G)).toList ++ st.map (tv G) := by cases r <;> rfl
  rw [e3] at a1
  exact a1
theorem cat_sum (G : mG) : ∀ st : List Value, (∀ v ∈ st, v.category = 1) → ((st.map (tv G)).map fun v => v.category).sum = st.length := by
  intro st
  induction st with
  | nil => intro _; rfl
  | cons v t ih =>
    intro h
    simp only [List.map_cons, List.sum_cons, List.length_cons]
    rw [ih (fun w hw => h w (List.mem_cons_of_mem _ hw)), tv_cat, h v List.mem_cons_self]
    omega
def stOk (st : List Value) : Bool := (st.all fun v => v.category == 1) && decide (st.length ≤ 8)
theorem st_room {G : mG} {m : MethodId} {pc : Nat} {a : Array Slot} {st0 st : List Value} (h : stOk st = true) : 2 * (F0 m pc a st0).monitorRoom + ((st.map (tv G)).map fun v => v.category).sum ≤ 8 := by
  simp only [stOk, Bool.and_eq_true, List.all_eq_true, beq_iff_eq, decide_eq_true_eq] at h
  rw [cat_sum G st h.1]
  have h0 : (F0 m pc a st0).monitorRoom = 0 := rfl
  rw [h0]
  omega
theorem mPre {G : mG} {p : Program} {s : State} {m : MethodId} {args : Array Value} {meth : Method} {c : Code} {H : Heap} {locs : List Loc} {as : List Value} (C : mC G X f p s m args meth c) (hS : mS G Hm H) (hV : va_S (mA G) s.heap H locs) (hH : H.size = gb G + Hm.length) :
    ∀ U : State, U.heap = H → s.WarmedH U.vm → mPc G X as Hm (as.map (tv G)).toArray U := by
  intro U hU hW
  subst hU
  exact ⟨rfl, hS, mX_moved hW hV.1 C.2.2.2.2.2.2.2.2.2 hV.2.1 C.2.2.2.2.2.2.2.2.1, hH⟩
theorem mRoom {d : Nat} {f g : mI} (h : il g ≤ 45) : (mRm d g).frames + 1 ≤ (mRm (d + 1) f).frames ∧ 8 + (il g + 11) + (mRm d g).locals ≤ (mRm (d + 1) f).locals := by
  refine ⟨Nat.le_refl _, ?_⟩
  show 8 + (il g + 11) + 64 * d ≤ 64 * (d + 1)
  omega
theorem wp_callV {index n c0 : Nat} {C0 : String} {T0 : u_T} {N0 ci : Nat} {fs as : List Value} {kn' : Nat × Nat} (hd : decode (ib f) pc = .ok (.invokevirtual index, 3)) (hc : Lc g n) (hl : Lv (iy f).cls index g) (hn : as.length = n) (hst : stOk st = true)
    (ho : Hm[c0]? = some (.inr (ci, fs))) (hci : mcl[ci]? = some (C0, T0, N0)) (hcl : (iy g).cls = C0) (hkn : kn' = (kn.1 + ic g, kn.2 + is_ g)) (hf : kn.1 + ic g ≤ ic f ∧ kn.2 + is_ g ≤ is_ f)
    (k : Sp X d g (.ref c0 :: as) Hm (fun r u => wp X (d + 1) f kn' (pc + 3) ls (r.toList ++ st) u Q)) : wp X (d + 1) f kn pc ls (as.reverse ++ .ref c0 :: st) Hm Q := by
  intro G p e s m args below meth c a H locs C hS hV hL hz
  refine W_sized (fun hsz => ?_)
  have hH : H.size = gb G + Hm.length := by
    have h1 := mS_size hS (Nat.le_trans C.2.2.2.2.2.2.2.2.2 hV.1)
    omega
  have C' := C
  obtain ⟨hx, hb, hr, hts, hown, hml, hlk, hnm, hX, hbs⟩ := C
  obtain ⟨l1, l2, l3⟩ := hl
  obtain ⟨c1, c2, c3, c4⟩ := hc
  have hw : ∀ w ∈ mW, w.before args s = true := fun w h => hts w (List.mem_cons_of_mem _ h)
  have cb : CallB (mRm (d + 1) f) s args (iy f).cls index (iy g) (ib g) (il g) (ir g) (mw g) (mRm d g) (ic g) (is_ g) n :=
    callB_of (Ts := mw f) (ws' := mW) n hts (mw_good c1) rfl rfl rfl (hw _ c2) (hw _ l1) c3 (mRoom c4)
  have e0 : (as.reverse ++ .ref c0 :: st).map (tv G) = (as.map (tv G)).reverse ++ .ref (ad G c0) :: st.map (tv G) := by simp [tv_ref]
  have hrec : ∃ cellB : Cell, H[ad G c0]? = some cellB ∧ cellB.vm.isStatics = false ∧ s.vm.findClass C0 = some cellB.cls := by
    rw [mS_ad hS ho]
    exact va_recv hX.1 hS.2 hci (tw_at ho)
  have hpre := mPre (as := .ref c0 :: as) C' hS hV hH
  have hp : PreV s H C0 (ad G c0) (mPc G X (.ref c0 :: as) Hm) (as.map (tv G)) := ⟨mPc_blind, hrec, hpre⟩
  have hrun := va_runV (l := gl G) (p := p) (e := e) (below := below) (meth := meth) (locs := locs) (cells := kn.1) (slots := kn.2) (g := F0 m pc a ((as.map (tv G)).reverse ++ .ref (ad G c0) :: st.map (tv G))) (rest := st.map (tv G)) (Ts := mw f) (cc := ib f) (nL := il f) (C := C0) ⟨hx, hb, hml, hown, hts⟩ (k G) ⟨cb, hw _ l2, by rw [← hcl]; exact hw _ l3⟩ hp rfl (by rw [List.length_map]; exact hn) hL.2.1 rfl (st_room hst) hd hf
  rw [e0]
  exact mK_run C' hV hL hH hz hkn hrun
theorem wp_callS {index n : Nat} {as : List Value} {kn' : Nat × Nat} (hd : decode (ib f) pc = .ok (.invokestatic index, 3)) (hc : Lc g n) (hl : Lst (iy f).cls index g) (hn : as.length = n) (hst : stOk st = true)
    (hkn : kn' = (kn.1 + ic g, kn.2 + is_ g)) (hf : kn.1 + ic g ≤ ic f ∧ kn.2 + is_ g ≤ is_ f)
    (k : Sp X d g as Hm (fun r u => wp X (d + 1) f kn' (pc + 3) ls (r.toList ++ st) u Q)) : wp X (d + 1) f kn pc ls (as.reverse ++ st) Hm Q := by
  intro G p e s m args below meth c a H locs C hS hV hL hz
  refine W_sized (fun hsz => ?_)
  have hH : H.size = gb G + Hm.length := by
    have h1 := mS_size hS (Nat.le_trans C.2.2.2.2.2.2.2.2.2 hV.1)
    omega
  have C' := C
  obtain ⟨hx, hb, hr, hts, hown, hml, hlk, hnm, hX, hbs⟩ := C
  obtain ⟨l1, l2⟩ := hl
  obtain ⟨c1, c2, c3, c4⟩ := hc
  have hw : ∀ w ∈ mW, w.before args s = true := fun w h => hts w (List.mem_cons_of_mem _ h)
  have cb : CallB (mRm (d + 1) f) s args (iy f).cls index (iy g) (ib g) (il g) (ir g) (mw g) (mRm d g) (ic g) (is_ g) n :=
    callB_of (Ts := mw f) (ws' := mW) n hts (mw_good c1) rfl rfl rfl (hw _ c2) (hw _ l1) c3 (mRoom c4)
  have e0 : (as.reverse ++ st).map (tv G) = (as.map (tv G)).reverse ++ st.map (tv G) := by simp
  have hp : PreS s H (mPc G X as Hm) (as.map (tv G)) := ⟨mPc_blind, mPre C' hS hV hH⟩
  have hrun := va_runS (l := gl G) (p := p) (e := e) (below := below) (meth := meth) (locs := locs) (cells := kn.1) (slots := kn.2) (g := F0 m pc a ((as.map (tv G)).reverse ++ st.map (tv G))) (rest := st.map (tv G)) (Ts := mw f) (cc := ib f) (nL := il f) ⟨hx, hb, hml, hown, hts⟩ (k G) ⟨cb, hw _ l2⟩ hp rfl (by rw [List.length_map]; exact hn) hL.2.1 rfl (st_room hst) hd hf
  rw [e0]
  exact mK_run C' hV hL hH hz hkn hrun
theorem wp_callSN {index n : Nat} {as : List Value} {host : String} {kn' : Nat × Nat} (hd : decode (ib f) pc = .ok (.invokestatic index, 3)) (hc : Lc g n) (hl : LsN (iy f).cls index g host) (hn : as.length = n) (hst : stOk st = true)
    (hkn : kn' = (kn.1 + ic g, kn.2 + is_ g)) (hf : kn.1 + ic g ≤ ic f ∧ kn.2 + is_ g ≤ is_ f)
    (k : Sp X d g as Hm (fun r u => wp X (d + 1) f kn' (pc + 3) ls (r.toList ++ st) u Q)) : wp X (d + 1) f kn pc ls (as.reverse ++ st) Hm Q := by
  intro G p e s m args below meth c a H locs C hS hV hL hz
  refine W_sized (fun hsz => ?_)
  have hH : H.size = gb G + Hm.length := by
    have h1 := mS_size hS (Nat.le_trans C.2.2.2.2.2.2.2.2.2 hV.1)
    omega
  have C' := C
  obtain ⟨hx, hb, hr, hts, hown, hml, hlk, hnm, hX, hbs⟩ := C
  obtain ⟨l1, l2⟩ := hl
  obtain ⟨c1, c2, c3, c4⟩ := hc
  have hw : ∀ w ∈ mW, w.before args s = true := fun w h => hts w (List.mem_cons_of_mem _ h)
  have cb : va_CN (mRm (d + 1) f) s args (iy f).cls index (iy g) host (ib g) (il g) (ir g) (mw g) (mRm d g) (ic g) (is_ g) n :=
    va_cnB (Ts := mw f) (ws' := mW) n hts (mw_good c1) rfl rfl rfl (hX.2.1 _ l1) (hw _ c2) c3 (mRoom c4)
  have e0 : (as.reverse ++ st).map (tv G) = (as.map (tv G)).reverse ++ st.map (tv G) := by simp
  have hp : PreS s H (mPc G X as Hm) (as.map (tv G)) := ⟨mPc_blind, mPre C' hS hV hH⟩
  have hrun := va_runSN (l := gl G) (p := p) (e := e) (below := below) (meth := meth) (locs := locs) (cells := kn.1) (slots := kn.2) (g := F0 m pc a ((as.map (tv G)).reverse ++ st.map (tv G))) (rest := st.map (tv G)) (Ts := mw f) (cc := ib f) (nL := il f) ⟨hx, hb, hml, hown, hts⟩ (k G) ⟨cb, hw _ l2, trivial⟩ hp rfl (by rw [List.length_map]; exact hn) hL.2.1 rfl (st_room hst) hd hf
  rw [e0]
  exact mK_run C' hV hL hH hz hkn hrun
/-- a constructor: its link is in the tables, or by nest -/
theorem wp_callI {index n c0 : Nat} {as : List Value} {kn' : Nat × Nat} (hd : decode (ib f) pc = .ok (.invokespecial index, 3)) (hc : Lc g n) (hl : Li (iy f).cls index g) (hn : as.length = n) (hst : stOk st = true)
    (hkn : kn' = (kn.1 + ic g, kn.2 + is_ g)) (hf : kn.1 + ic g ≤ ic f ∧ kn.2 + is_ g ≤ is_ f)
    (k : Sp X d g (.ref c0 :: as) Hm (fun r u => wp X (d + 1) f kn' (pc + 3) ls (r.toList ++ st) u Q)) : wp X (d + 1) f kn pc ls (as.reverse ++ .ref c0 :: st) Hm Q := by
  intro G p e s m args below meth c a H locs C hS hV hL hz
  refine W_sized (fun hsz => ?_)
  have hH : H.size = gb G + Hm.length := by
    have h1 := mS_size hS (Nat.le_trans C.2.2.2.2.2.2.2.2.2 hV.1)
    omega
  have C' := C
  obtain ⟨hx, hb, hr, hts, hown, hml, hlk, hnm, hX, hbs⟩ := C
  obtain ⟨l1, l2, l3, l4⟩ := hl
  obtain ⟨c1, c2, c3, c4⟩ := hc
  have hw : ∀ w ∈ mW, w.before args s = true := fun w h => hts w (List.mem_cons_of_mem _ h)
  have cb : CallB (mRm (d + 1) f) s args (iy f).cls index (iy g) (ib g) (il g) none (mw g) (mRm d g) (ic g) (is_ g) n :=
    callB_of (Ts := mw f) (ws' := mW) n hts (mw_good c1) (by rw [← l4]) rfl rfl (hw _ c2) (hw _ l1) c3 (mRoom c4)
  have e0 : (as.reverse ++ .ref c0 :: st).map (tv G) = (as.map (tv G)).reverse ++ .ref (ad G c0) :: st.map (tv G) := by simp [tv_ref]
  have hp : PreS s H (mPc G X (.ref c0 :: as) Hm) (.ref (ad G c0) :: as.map (tv G)) := ⟨mPc_blind, mPre C' hS hV hH⟩
  have hrun := va_runI (l := gl G) (p := p) (e := e) (below := below) (meth := meth) (locs := locs) (cells := kn.1) (slots := kn.2) (g := F0 m pc a ((as.map (tv G)).reverse ++ .ref (ad G c0) :: st.map (tv G))) (rest := st.map (tv G)) (Ts := mw f) (cc := ib f) (nL := il f) ⟨hx, hb, hml, hown, hts⟩ (k G) ⟨cb, l3, hw _ l2⟩ hp rfl (by rw [List.length_map]; exact hn) hL.2.1 rfl (st_room hst) hd hf
  rw [e0]
  exact mK_run C' hV hL hH hz hkn hrun
theorem wp_callIN {index n c0 : Nat} {as : List Value} {host : String} {kn' : Nat × Nat} (hd : decode (ib f) pc = .ok (.invokespecial index, 3)) (hc : Lc g n) (hl : LiN (iy f).cls index g host) (hn : as.length = n) (hst : stOk st = true)
    (hkn : kn' = (kn.1 + ic g, kn.2 + is_ g)) (hf : kn.1 + ic g ≤ ic f ∧ kn.2 + is_ g ≤ is_ f)
    (k : Sp X d g (.ref c0 :: as) Hm (fun r u => wp X (d + 1) f kn' (pc + 3) ls (r.toList ++ st) u Q)) : wp X (d + 1) f kn pc ls (as.reverse ++ .ref c0 :: st) Hm Q := by
  intro G p e s m args below meth c a H locs C hS hV hL hz
  refine W_sized (fun hsz => ?_)
  have hH : H.size = gb G + Hm.length := by
    have h1 := mS_size hS (Nat.le_trans C.2.2.2.2.2.2.2.2.2 hV.1)
    omega
  have C' := C
  obtain ⟨hx, hb, hr, hts, hown, hml, hlk, hnm, hX, hbs⟩ := C
  obtain ⟨l1, l2, l3, l4⟩ := hl
  obtain ⟨c1, c2, c3, c4⟩ := hc
  have hw : ∀ w ∈ mW, w.before args s = true := fun w h => hts w (List.mem_cons_of_mem _ h)
  have cb : va_CN (mRm (d + 1) f) s args (iy f).cls index (iy g) host (ib g) (il g) none (mw g) (mRm d g) (ic g) (is_ g) n :=
    va_cnB (Ts := mw f) (ws' := mW) n hts (mw_good c1) (by rw [← l4]) rfl rfl (hX.2.1 _ l1) (hw _ c2) c3 (mRoom c4)
  have e0 : (as.reverse ++ .ref c0 :: st).map (tv G) = (as.map (tv G)).reverse ++ .ref (ad G c0) :: st.map (tv G) := by simp [tv_ref]
  have hp : PreS s H (mPc G X (.ref c0 :: as) Hm) (.ref (ad G c0) :: as.map (tv G)) := ⟨mPc_blind, mPre C' hS hV hH⟩
  have hrun := va_runIN (l := gl G) (p := p) (e := e) (below := below) (meth := meth) (locs := locs) (cells := kn.1) (slots := kn.2) (g := F0 m pc a ((as.map (tv G)).reverse ++ .ref (ad G c0) :: st.map (tv G))) (rest := st.map (tv G)) (Ts := mw f) (cc := ib f) (nL := il f) ⟨hx, hb, hml, hown, hts⟩ (k G) ⟨cb, l3, hw _ l2⟩ hp rfl (by rw [List.length_map]; exact hn) hL.2.1 rfl (st_room hst) hd hf
  rw [e0]
  exact mK_run C' hV hL hH hz hkn hrun
theorem wp_objI {index c0 : Nat} (hd : decode (ib f) pc = .ok (.invokespecial index, 3)) (h1 : Cond.methodLink (iy f).cls index Lib.objectInit ∈ mW) (h2 : Cond.instanceMethod Lib.objectInit ∈ mW) (h3 : Cond.code Lib.objectInit ⟨#[0xb1]⟩ 1 none ∈ mW) (k : wp X (d + 1) f kn (pc + 3) ls [] Hm Q) : wp X (d + 1) f kn pc ls [.ref c0] Hm Q := by
  intro G p e s m args below meth c a H locs C hS hV hL hz
  have hw : ∀ w ∈ mW, w.before args s = true := fun w h => C.2.2.2.1 w (List.mem_cons_of_mem _ h)
  refine W.objInit C.1 C.2.1 C.2.2.2.2.1 (hw _ h1) (hw _ h2) (hw _ h3) rfl (by rw [C.2.2.2.2.2.1]; exact hL.2.1) rfl hd (Nat.le_add_left _ _) ?_ (k G p e s m args below meth c a H locs C hS hV hL hz)
  show 2 * 0 + 0 + 12 ≤ 64 * (d + 1)
  omega
end MK
