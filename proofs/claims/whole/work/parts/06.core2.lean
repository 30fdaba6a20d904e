/-! ===== fields, rows of numbers, calls ===== -/
theorem mW_good {w : Cond} (h : w ∈ mW) : (w.onTables && w.keeps) = true ∨ ∃ ty, w = .arrayClass ty := good_of_word (List.mem_filter.mp h).2
theorem mw_good {f g : mI} (h : Cond.code (iy g) (ib g) (il g) (ir g) ∈ mW) : GoodIn (mw f) (mw g) := by
  intro w hw
  rcases List.mem_cons.mp hw with rfl | hw
  · exact ⟨List.mem_cons_of_mem _ h, mW_good h⟩
  · exact ⟨List.mem_cons_of_mem _ hw, mW_good hw⟩
theorem mX_same {G : mG} {X : mXs} {U U' : State} (hv : U.vm = U'.vm) (hh : U.heap = U'.heap) (h : mX G X U) : mX G X U' := by
  obtain ⟨h1, h2, ⟨h3, h4⟩, ⟨h5, h6, h8⟩, h7⟩ := h
  have hA : U.vm.Alike U'.vm := by rw [hv]; exact Vm.Alike.refl _
  refine ⟨h1.moved hA, fun w hw => ?_, ⟨h3.moved hA, h4.moved hA⟩, ⟨by rw [← hh]; exact h5.moved hA, by rw [← hh]; exact h6.moved hA, mStr_same hv hh h8⟩, fun k hk => ?_⟩
  · have hz := h2 w hw
    simp only [mNest, List.mem_cons, List.not_mem_nil, or_false] at hw
    rcases hw with rfl | rfl | rfl | rfl | rfl | rfl | rfl | rfl <;> exact hz.same rfl hv
  · obtain ⟨a, b⟩ := h7 k hk
    exact ⟨a, by rw [← hh]; exact b.moved hA⟩
/-- a number that is a place -/
def ix (i : Int32) (j : Nat) : Prop := i.toInt = (j : Int)
theorem ix_nl {i : Int32} {j : Nat} (h : ix i j) : ¬ i < 0 := by
  unfold ix at h
  intro hn
  have := Int32.lt_iff_toInt_lt.mp hn
  have h0 : (0 : Int32).toInt = 0 := rfl
  omega
theorem ix_clamp {i : Int32} {j : Nat} (h : ix i j) : i.toNatClampNeg = j := by
  unfold ix at h
  have h1 : i.toNatClampNeg = i.toInt.toNat := rfl
  rw [h1, h]
  rfl
theorem ix_in {i : Int32} {j n : Nat} (h : ix i j) (hn : j < n) : vp_in i n := by
  rintro (h1 | h1)
  · exact ix_nl h h1
  · rw [ix_clamp h] at h1
    omega
theorem ix_nI {j : Nat} (h : j < 2147483648) : ix (nI j) j := nI_toInt h
theorem W_sized {p : Program} {l : Launch} {e : Env} {R : Room} {s : State} {m : MethodId} {args : Array Value} {below : List Frame} {meth : Method} {c : Code} {H : Heap} {locs : List Loc} {cells slots : Nat} {Q : State → Prop} {g : JFrame}
    (h : H.size ≤ s.heap.size + cells → W p l e R s m args below meth c H locs cells slots Q g) : W p l e R s m args below meth c H locs cells slots Q g := by
  intro T hT X
  have h1 := X.same.2.2.1
  have h2 : (T.setVm s.vm).heap = H := hT
  rw [h2] at h1
  exact h h1 T hT X
theorem mS_size {G : mG} {Hm : mH} {H : Heap} (hS : mS G Hm H) (hb : gb G ≤ H.size) : gb G + Hm.length ≤ H.size := by
  cases hl : Hm.length with
  | zero => exact hb
  | succ n =>
    have hn : n < Hm.length := by omega
    have h1 : Hm[n]? = some Hm[n] := List.getElem?_eq_getElem hn
    have h2 := (hS.2 n _ (tw_at h1)).lt
    have h3 : gb G + n < H.size := h2
    omega
section MF
variable {X : mXs} {d : Nat} {f : mI} {kn : Nat × Nat} {pc : Nat} {ls st : List Value} {Hm : mH} {Q : Option Value → mH → Prop}
theorem wp_get {index ci k c0 : Nat} {fs : List Value} {v : Value} (hd : decode (ib f) pc = .ok (.getfield index, 3)) (hl : Lf (iy f).cls index ci k) (hc : Hm[c0]? = some (.inr (ci, fs))) (hv : fs[k]? = some v) (kk : wp X d f kn (pc + 3) ls (v :: st) Hm Q) : wp X d f kn pc ls (.ref c0 :: st) Hm Q := by
  intro G p e s m args below meth c a H locs C hS hV hL hz
  obtain ⟨C0, T, N, h1, h2, h3, h4⟩ := hl
  obtain ⟨hx, hb, hr, hts, hown, hml, hlk, hnm, hX, hbs⟩ := C
  show W p (gl G) e (mRm d f) s m args below meth c H locs kn.1 kn.2 _ (F0 m pc a (.ref (ad G c0) :: st.map (tv G)))
  rw [mS_ad hS hc]
  exact va_get (D := gD G) (cl := mcl) (tys := mty G) (Ts := mw f) hx hb hts (fun w hw => List.mem_cons_of_mem _ (h3 w hw)) hown hX.1 hS.2 c0 (tw_at hc) h1 k h2 (hts _ (List.mem_cons_of_mem _ h4)) (fun _ h => h) (v := tv G v) (by rw [List.getElem?_map, hv]; rfl) hd (kk G p e s m args below meth c a H locs ⟨hx, hb, hr, hts, hown, hml, hlk, hnm, hX, hbs⟩ hS hV hL hz)
theorem wp_put {index ci k c0 : Nat} {fs : List Value} {v : Value} {ty : FieldType} {fin : Bool} (hd : decode (ib f) pc = .ok (.putfield index, 3)) (hl : Lp (iy f).cls index ci k ty fin) (hfin : fin = true → (iy f).name = "<init>") (hc : Hm[c0]? = some (.inr (ci, fs))) (hk : k < fs.length) (hv : ∀ G, narrow ty (tv G v) = tv G v ∧ fits ty (tv G v) = true)
    (kk : wp X d f kn (pc + 3) ls st (Hm.set c0 (.inr (ci, fs.set k v))) Q) : wp X d f kn pc ls (v :: .ref c0 :: st) Hm Q := by
  intro G p e s m args below meth c a H locs C hS hV hL hz
  obtain ⟨C0, T, N, ty0, h1, h2, h3, h4, h5, h6, h7, h8, h9⟩ := hl
  have C' := C
  obtain ⟨hx, hb, hr, hts, hown, hml, hlk, hnm, hX, hbs⟩ := C
  show W p (gl G) e (mRm d f) s m args below meth c H locs kn.1 kn.2 _ (F0 m pc a (tv G v :: .ref (ad G c0) :: st.map (tv G)))
  rw [mS_ad hS hc]
  have go : ∀ (H1 : Heap) (locs1 : List Loc), va_P (gD G) mcl ((tw G Hm).set c0 (gb G + c0, .inr (ci, (fs.map (tv G)).set k (tv G v)))) H1 → va_S (mA G) s.heap H1 locs1 → W p (gl G) e (mRm d f) s m args below meth c H1 locs1 kn.1 kn.2 (MQ below (mQ G f Q) args s (ic f) (is_ f) (mA G)) (F0 m (pc + 3) a (st.map (tv G))) := by
    intro H1 locs1 hP1 hS1
    refine kk G p e s m args below meth c a H1 locs1 C' ⟨by rw [List.length_set]; exact hS.1, ?_⟩ hS1 hL (by rw [List.length_set]; exact hz)
    rw [tw_set]
    have e1 : te G (.inr (ci, fs.set k v)) = .inr (ci, (fs.map (tv G)).set k (tv G v)) := by
      show (Sum.inr (ci, (fs.set k v).map (tv G)) : va_E) = _
      rw [List.map_set]
    rw [e1]
    exact hP1
  cases fin with
  | false => exact va_put (D := gD G) (cl := mcl) (tys := mty G) (Ts := mw f) hx hb hts (fun w hw => List.mem_cons_of_mem _ (h3 w hw)) ty0 h5 h6 hown hX.1 hS.2 (tw_D G Hm) hV c0 (tw_at hc) h1 k h2 (hts _ (List.mem_cons_of_mem _ h4)) (fun _ h => h) h7 h9 (hv G).1 (hv G).2 (by rw [List.length_map]; exact hk) hd (fun H1 l1 a1 _ a3 => go H1 l1 a1 a3)
  | true => exact va_putF (D := gD G) (cl := mcl) (tys := mty G) (Ts := mw f) hx hb hts (fun w hw => List.mem_cons_of_mem _ (h3 w hw)) ty0 h5 h6 hown hX.1 hS.2 (tw_D G Hm) hV c0 (tw_at hc) h1 k h2 (hts _ (List.mem_cons_of_mem _ h4)) (fun _ h => h) h7 (hnm.trans (hfin rfl)) (h8 rfl) h9 (hv G).1 (hv G).2 (by rw [List.length_map]; exact hk) hd (fun H1 l1 a1 _ a3 => go H1 l1 a1 a3)
theorem wp_iald {c0 n j : Nat} {g : Nat → Int32} {i : Int32} (hd : decode (ib f) pc = .ok (.iaload, 1)) (hc : Hm[c0]? = some (.inl (0, n, g))) (hi : ix i j) (hj : j < n) (kk : wp X d f kn (pc + 1) ls (.int (g j) :: st) Hm Q) : wp X d f kn pc ls (.int i :: .ref c0 :: st) Hm Q := by
  intro G p e s m args below meth c a H locs C hS hV hL hz
  show W p (gl G) e (mRm d f) s m args below meth c H locs kn.1 kn.2 _ (F0 m pc a (.int i :: .ref (ad G c0) :: st.map (tv G)))
  rw [mS_ad hS hc]
  have k1 := kk G p e s m args below meth c a H locs C hS hV hL hz
  refine va_iald (D := gD G) (cl := mcl) (tys := mty G) C.1 C.2.1 C.2.2.2.2.2.2.2.2.1.1 hS.2 c0 0 (tw_at hc) rfl (ix_in hi hj) hd ?_
  rw [ix_clamp hi]
  exact k1
theorem wp_iast {c0 n j : Nat} {g : Nat → Int32} {i x : Int32} (hd : decode (ib f) pc = .ok (.iastore, 1)) (hc : Hm[c0]? = some (.inl (0, n, g))) (hi : ix i j) (hj : j < n) (kk : wp X d f kn (pc + 1) ls st (Hm.set c0 (.inl (0, n, upd g j x))) Q) : wp X d f kn pc ls (.int x :: .int i :: .ref c0 :: st) Hm Q := by
  intro G p e s m args below meth c a H locs C hS hV hL hz
  show W p (gl G) e (mRm d f) s m args below meth c H locs kn.1 kn.2 _ (F0 m pc a (.int x :: .int i :: .ref (ad G c0) :: st.map (tv G)))
  rw [mS_ad hS hc]
  refine va_iast (D := gD G) (cl := mcl) (tys := mty G) C.1 C.2.1 C.2.2.2.2.2.2.2.2.1.1 hS.2 (tw_D G Hm) hV c0 0 (tw_at hc) rfl (ix_in hi hj) hd (fun H1 l1 a1 _ a3 => ?_)
  rw [ix_clamp hi] at a1
  refine kk G p e s m args below meth c a H1 l1 C ⟨by rw [List.length_set]; exact hS.1, ?_⟩ a3 hL (by rw [List.length_set]; exact hz)
  rw [tw_set]
  exact a1
theorem wp_alen {c0 t n : Nat} {g : Nat → Int32} {v : Int32} (hd : decode (ib f) pc = .ok (.arraylength, 1)) (hc : Hm[c0]? = some (.inl (t, n, g))) (hv : Int32.ofNat n = v) (kk : wp X d f kn (pc + 1) ls (.int v :: st) Hm Q) : wp X d f kn pc ls (.ref c0 :: st) Hm Q := by
  intro G p e s m args below meth c a H locs C hS hV hL hz
  show W p (gl G) e (mRm d f) s m args below meth c H locs kn.1 kn.2 _ (F0 m pc a (.ref (ad G c0) :: st.map (tv G)))
  rw [mS_ad hS hc]
  have k1 := kk G p e s m args below meth c a H locs C hS hV hL hz
  match t, hc with
  | 0, hc => exact va_alen (D := gD G) (cl := mcl) (tys := mty G) C.1 C.2.1 C.2.2.2.2.2.2.2.2.1.1 hS.2 c0 0 (tw_at hc) rfl hv hd k1
  | 1, hc => exact va_alen (D := gD G) (cl := mcl) (tys := mty G) C.1 C.2.1 C.2.2.2.2.2.2.2.2.1.1 hS.2 c0 1 (tw_at hc) rfl hv hd k1
  | t + 2, hc => exact va_alen (D := gD G) (cl := mcl) (tys := mty G) C.1 C.2.1 C.2.2.2.2.2.2.2.2.1.1 hS.2 c0 2 (tw_at hc) rfl hv hd k1
theorem tr_ix {G : mG} {x : Int32} {c : Nat} (h : ix x c) : tr G x = some (ad G c) := by
  rw [tr, if_neg (ix_nl h), ix_clamp h]
theorem wp_aald {c0 t n j c1 : Nat} {g : Nat → Int32} {i : Int32} (hd : decode (ib f) pc = .ok (.aaload, 1)) (hc : Hm[c0]? = some (.inl (t + 1, n, g))) (hi : ix i j) (hj : j < n) (h1 : ix (g j) c1) (kk : wp X d f kn (pc + 1) ls (.ref c1 :: st) Hm Q) : wp X d f kn pc ls (.int i :: .ref c0 :: st) Hm Q := by
  intro G p e s m args below meth c a H locs C hS hV hL hz
  show W p (gl G) e (mRm d f) s m args below meth c H locs kn.1 kn.2 _ (F0 m pc a (.int i :: .ref (ad G c0) :: st.map (tv G)))
  rw [mS_ad hS hc]
  have k1 := kk G p e s m args below meth c a H locs C hS hV hL hz
  match t, hc with
  | 0, hc =>
    refine va_aldq (D := gD G) (cl := mcl) (tys := mty G) C.1 C.2.1 C.2.2.2.2.2.2.2.2.1.1 hS.2 c0 1 (tw_at hc) rfl (ix_in hi hj) hd ?_
    rw [ix_clamp hi, tr_ix h1]
    exact k1
  | t + 1, hc =>
    refine va_aldq (D := gD G) (cl := mcl) (tys := mty G) C.1 C.2.1 C.2.2.2.2.2.2.2.2.1.1 hS.2 c0 2 (tw_at hc) rfl (ix_in hi hj) hd ?_
    rw [ix_clamp hi, tr_ix h1]
    exact k1
theorem tr_upd {G : mG} {g : Nat → Int32} {j c1 : Nat} {x : Int32} (h : ix x c1) : (fun i => tr G (upd g j x i)) = va_up (fun i => tr G (g i)) j (some (ad G c1)) := by
  funext i
  unfold upd va_up
  by_cases hij : i = j
  · rw [if_pos hij, if_pos hij, tr_ix h]
  · rw [if_neg hij, if_neg hij]
theorem wp_aast {c0 n j c1 : Nat} {g : Nat → Int32} {i x : Int32} {fs : List Value} (hd : decode (ib f) pc = .ok (.aastore, 1)) (hc : Hm[c0]? = some (.inl (1, n, g))) (hi : ix i j) (hj : j < n) (h1 : Hm[c1]? = some (.inr (5, fs))) (hx : ix x c1) (kk : wp X d f kn (pc + 1) ls st (Hm.set c0 (.inl (1, n, upd g j x))) Q) : wp X d f kn pc ls (.ref c1 :: .int i :: .ref c0 :: st) Hm Q := by
  intro G p e s m args below meth c a H locs C hS hV hL hz
  show W p (gl G) e (mRm d f) s m args below meth c H locs kn.1 kn.2 _ (F0 m pc a (.ref (ad G c1) :: .int i :: .ref (ad G c0) :: st.map (tv G)))
  rw [mS_ad hS hc, mS_ad hS h1]
  refine va_astq (D := gD G) (cl := mcl) (tys := mty G) (r := (R_Thing, F_Thing, 7)) C.1 C.2.1 C.2.2.2.2.2.2.2.2.1.1 hS.2 (tw_D G Hm) hV c0 1 c1 5 (tw_at hc) rfl (tw_at h1) rfl (ix_in hi hj) hd (fun H1 l1 a1 _ a3 => ?_)
  rw [ix_clamp hi] at a1
  refine kk G p e s m args below meth c a H1 l1 C ⟨by rw [List.length_set]; exact hS.1, ?_⟩ a3 hL (by rw [List.length_set]; exact hz)
  rw [tw_set]
  have e1 : te G (.inl (1, n, upd g j x)) = .inl (gT G, n, .inr (.inr (.inr (.inr (va_up (fun i => tr G (g i)) j (some (gb G + c1))))))) := by
    show (Sum.inl (gT G, n, Sum.inr (Sum.inr (Sum.inr (Sum.inr (fun i => tr G (upd g j x i)))))) : va_E) = _
    rw [tr_upd hx, mS_ad hS h1]
  rw [e1]
  exact a1
theorem wp_aastW {c0 n j c1 : Nat} {g : Nat → Int32} {i x : Int32} {fs : List Value} (hd : decode (ib f) pc = .ok (.aastore, 1)) (hc : Hm[c0]? = some (.inl (2, n, g))) (hi : ix i j) (hj : j < n) (h1 : Hm[c1]? = some (.inr (8, fs))) (hx : ix x c1) (kk : wp X d f kn (pc + 1) ls st (Hm.set c0 (.inl (2, n, upd g j x))) Q) : wp X d f kn pc ls (.ref c1 :: .int i :: .ref c0 :: st) Hm Q := by
  intro G p e s m args below meth c a H locs C hS hV hL hz
  show W p (gl G) e (mRm d f) s m args below meth c H locs kn.1 kn.2 _ (F0 m pc a (.ref (ad G c1) :: .int i :: .ref (ad G c0) :: st.map (tv G)))
  rw [mS_ad hS hc, mS_ad hS h1]
  refine va_astq (D := gD G) (cl := mcl) (tys := mty G) (r := (R_World, F_World, 13)) C.1 C.2.1 C.2.2.2.2.2.2.2.2.1.1 hS.2 (tw_D G Hm) hV c0 2 c1 8 (tw_at hc) rfl (tw_at h1) rfl (ix_in hi hj) hd (fun H1 l1 a1 _ a3 => ?_)
  rw [ix_clamp hi] at a1
  refine kk G p e s m args below meth c a H1 l1 C ⟨by rw [List.length_set]; exact hS.1, ?_⟩ a3 hL (by rw [List.length_set]; exact hz)
  rw [tw_set]
  have e1 : te G (.inl (2, n, upd g j x)) = .inl (gW G, n, .inr (.inr (.inr (.inr (va_up (fun i => tr G (g i)) j (some (gb G + c1))))))) := by
    show (Sum.inl (gW G, n, Sum.inr (Sum.inr (Sum.inr (Sum.inr (fun i => tr G (upd g j x i)))))) : va_E) = _
    rw [tr_upd hx, mS_ad hS h1]
  rw [e1]
  exact a1
end MF
