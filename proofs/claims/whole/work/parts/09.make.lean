/-! ===== makings ===== -/
section MM
variable {X : mXs} {d : Nat} {f g : mI} {kn kn' : Nat × Nat} {pc : Nat} {ls st : List Value} {Hm : mH} {Q : Option Value → mH → Prop}
theorem ad_lt (G : mG) {c : Nat} (h : c < 100000) : ad G c = gb G + c := by rw [ad, if_pos h]
theorem mS_push {G : mG} {Hm : mH} {H H1 : Heap} {q : mE} (hS : mS G Hm H) (hl : Hm.length < 100000) (hk : ∀ q : Nat, q < H.size → H1[q]? = H[q]?) (hq : va_at (gD G) mcl (gb G + Hm.length, te G q) H1) : mS G (Hm ++ [q]) H1 := by
  refine ⟨by rw [List.length_append]; exact hl, ?_⟩
  rw [tw_app]
  refine va_P.app (hS.2.kept (fun k x hx => hk x.1 ((hS.2 k x hx).lt))) (fun k x hx => ?_)
  have hz : k < 1 := (List.getElem?_eq_some_iff.mp hx).1
  rw [show k = 0 by omega] at hx
  cases hx
  exact hq
def Ln (own : String) (index ci : Nat) (fs : List Value) : Prop := ∃ (C : String) (T : u_T) (N : Nat) (ty : Nat → FieldType), mcl[ci]? = some (C, T, N) ∧ N = fs.length ∧ (∀ w ∈ u_ws C T N, w ∈ mW) ∧ (∀ k, k < N → parseFieldDescriptor (T k).2.2.1 = some (ty k)) ∧ (∀ j, j < N → defaultValue (ty j) = vp_V fs j) ∧ Cond.classLink own index C ∈ mW ∧ Cond.instantiable C N ∈ mW ∧ Cond.initialized C ∈ mW ∧ fs.all (fun v => v.category == 1 && !(v matches .ref _)) = true
theorem tv_plain (G : mG) : ∀ fs : List Value, fs.all (fun v => v.category == 1 && !(v matches .ref _)) = true → fs.map (tv G) = fs := by
  intro fs
  induction fs with
  | nil => intro _; rfl
  | cons v t ih =>
    intro h
    simp only [List.all_cons, Bool.and_eq_true] at h
    rw [List.map_cons, ih h.2]
    cases v <;> simp_all [tv]
theorem wp_new {index ci : Nat} {fs : List Value} (hd : decode (ib f) pc = .ok (.new index, 3)) (hl : Ln (iy f).cls index ci fs) (hkn : kn' = (kn.1 + 1, kn.2 + fs.length)) (hc : kn.1 + 1 ≤ ic f) (hs : kn.2 + fs.length ≤ is_ f) (hlen : Hm.length < 100000)
    (kk : wp X d f kn' (pc + 3) ls (.ref Hm.length :: st) (Hm ++ [.inr (ci, fs)]) Q) : wp X d f kn pc ls st Hm Q := by
  intro G p e s m args below meth c a H locs C hS hV hL hz
  refine W_sized (fun hsz => ?_)
  have hH : H.size = gb G + Hm.length := by
    have h1 := mS_size hS (Nat.le_trans C.2.2.2.2.2.2.2.2.2 hV.1)
    omega
  have C' := C
  obtain ⟨hx, hb, hr, hts, hown, hml, hlk, hnm, hX, hbs⟩ := C
  obtain ⟨C0, T, N, ty, l1, l2, l3, l4, l5, l6, l7, l8, l9⟩ := hl
  subst l2
  have hw : ∀ w ∈ mW, w.before args s = true := fun w h => hts w (List.mem_cons_of_mem _ h)
  have hKn := hX.1.1 ci _ l1
  subst hkn
  refine W.newcK hx hb hown (hw _ l6) (hw _ l7) (hw _ l8) rfl hd hc hs hKn.2.1 hH (fun H1 kC hkC e1 z1 o1 => ?_)
  have hS1 : mS G (Hm ++ [.inr (ci, fs)]) H1 := by
    refine mS_push hS hlen (fun q hq => o1 q (by omega)) ?_
    show va_at (gD G) mcl (gb G + Hm.length, .inr (ci, fs.map (tv G))) H1
    rw [tv_plain G fs l9]
    exact ⟨_, l1, (u_born ty hw l3 hKn hkC e1 l4).to l5⟩
  have k1 := kk G p e s m args below meth c a H1 locs C' hS1 ⟨Nat.le_trans hV.1 (by omega), fun q h1 h2 => (o1 q (by have := hV.1; omega)).trans (hV.2.1 q h1 h2), hV.2.2⟩ hL (by rw [List.length_append]; simp only [List.length_cons, List.length_nil]; omega)
  have e2 : (Value.ref Hm.length :: st).map (tv G) = .ref (gb G + Hm.length) :: st.map (tv G) := by rw [List.map_cons, tv_ref, ad_lt G hlen]
  rw [e2] at k1
  exact k1
theorem wp_newa {n : Nat} {i : Int32} (hd : decode (ib f) pc = .ok (.newarray .int, 2)) (hw0 : Cond.arrayClass .int ∈ mW) (hi : ix i n) (hn : n ≤ 100000) (hkn : kn' = (kn.1 + 1, kn.2 + n)) (hc : kn.1 + 1 ≤ ic f) (hs : kn.2 + n ≤ is_ f) (hlen : Hm.length < 100000)
    (kk : wp X d f kn' (pc + 2) ls (.ref Hm.length :: st) (Hm ++ [.inl (0, n, fun _ => 0)]) Q) : wp X d f kn pc ls (.int i :: st) Hm Q := by
  intro G p e s m args below meth c a H locs C hS hV hL hz
  refine W_sized (fun hsz => ?_)
  have hH : H.size = gb G + Hm.length := by
    have h1 := mS_size hS (Nat.le_trans C.2.2.2.2.2.2.2.2.2 hV.1)
    omega
  have C' := C
  obtain ⟨hx, hb, hr, hts, hown, hml, hlk, hnm, hX, hbs⟩ := C
  have hw : ∀ w ∈ mW, w.before args s = true := fun w h => hts w (List.mem_cons_of_mem _ h)
  subst hkn
  refine va_newaK (atype := .int) hx hb (hw _ hw0) rfl hd rfl (ix_nl hi) (ix_clamp hi) (by show n * 4 ≤ 536870912; omega) hc hs hH (fun H1 cA e1 z1 o1 hAr hNm => ?_)
  have hcA : cA = gI G := by
    have h1 := (hX.1.2 0 _ rfl).2
    have h2 : s.vm.findClass ("[" ++ (FieldType.int).toString) = some (gI G) := h1
    exact Option.some.inj (hNm.symm.trans h2)
  subst hcA
  have hS1 : mS G (Hm ++ [.inl (0, n, fun _ => 0)]) H1 := by
    refine mS_push hS hlen (fun q hq => o1 q (by omega)) ?_
    show H1[gb G + Hm.length]? = some (vp_cell (gI G) (n, .inl (fun _ => 0)))
    rw [e1]
    rfl
  have k1 := kk G p e s m args below meth c a H1 locs C' hS1 ⟨Nat.le_trans hV.1 (by omega), fun q h1 h2 => (o1 q (by have := hV.1; omega)).trans (hV.2.1 q h1 h2), hV.2.2⟩ hL (by rw [List.length_append]; simp only [List.length_cons, List.length_nil]; omega)
  have e2 : (Value.ref Hm.length :: st).map (tv G) = .ref (gb G + Hm.length) :: st.map (tv G) := by rw [List.map_cons, tv_ref, ad_lt G hlen]
  rw [e2] at k1
  exact k1
theorem wp_anew {C0 : String} {t index n : Nat} {i : Int32} (hd : decode (ib f) pc = .ok (.anewarray index, 3)) (hl : Cond.classLink (iy f).cls index C0 ∈ mW) (ht : (t = 1 ∧ C0 = "StuckRecord$Thing") ∨ (t = 2 ∧ C0 = "StuckRecord$World")) (hi : ix i n) (hn : n ≤ 100000) (hkn : kn' = (kn.1 + 1, kn.2 + n)) (hc : kn.1 + 1 ≤ ic f) (hs : kn.2 + n ≤ is_ f) (hlen : Hm.length < 100000)
    (kk : wp X d f kn' (pc + 3) ls (.ref Hm.length :: st) (Hm ++ [.inl (t, n, fun _ => -1)]) Q) : wp X d f kn pc ls (.int i :: st) Hm Q := by
  intro G p e s m args below meth c a H locs C hS hV hL hz
  refine W_sized (fun hsz => ?_)
  have hH : H.size = gb G + Hm.length := by
    have h1 := mS_size hS (Nat.le_trans C.2.2.2.2.2.2.2.2.2 hV.1)
    omega
  have C' := C
  obtain ⟨hx, hb, hr, hts, hown, hml, hlk, hnm, hX, hbs⟩ := C
  have hw : ∀ w ∈ mW, w.before args s = true := fun w h => hts w (List.mem_cons_of_mem _ h)
  subst hkn
  have hao : (Cond.arrayOver (.object C0)).before args s = true := by
    rcases ht with ⟨-, rfl⟩ | ⟨-, rfl⟩
    · exact va_AO.use hX.2.2.1.1
    · exact va_AO.use hX.2.2.1.2
  refine W.anew hx hb hown (hw _ hl) hao rfl hd rfl (ix_nl hi) (by rw [ix_clamp hi]; omega) hc (by rw [ix_clamp hi]; exact hs) (fun cA kA comp f1 f2 f3 f4 => ?_)
  rw [ix_clamp hi]
  generalize hH1 : H.push ({ cls := cA, slots := Array.replicate n .null, vm := .none } : Cell) = H1
  have z1 : H1.size = H.size + 1 := by rw [← hH1, Array.size_push]
  have e1 : H1[H.size]? = some (arrV cA n (fun _ => .null)) := by rw [← hH1, Array.getElem?_push_size, ← arrV_new]
  have o1 : ∀ q : Nat, q < H.size → H1[q]? = H[q]? := fun q hq => by rw [← hH1, Array.getElem?_push, if_neg (Nat.ne_of_lt hq)]
  have hS1 : mS G (Hm ++ [.inl (t, n, fun _ => -1)]) H1 := by
    refine mS_push hS hlen (fun q hq => o1 q (by omega)) ?_
    have htr : (fun i : Nat => tr G ((fun _ => -1 : Nat → Int32) i)) = fun _ => none := by
      funext i
      show tr G (-1) = none
      rw [tr, if_pos (by decide)]
    rcases ht with ⟨rfl, rfl⟩ | ⟨rfl, rfl⟩
    · have hcA : cA = gT G := by
        obtain ⟨-, -, -, -, -, h2⟩ := (hX.1.2 1 _ rfl).2
        exact Option.some.inj (f1.symm.trans h2)
      subst hcA
      show H1[gb G + Hm.length]? = some (vp_cell (gT G) (n, .inr (.inr (.inr (.inr (fun i => tr G ((fun _ => -1 : Nat → Int32) i)))))))
      rw [htr, ← hH, e1]
      rfl
    · have hcA : cA = gW G := by
        obtain ⟨-, -, -, -, -, h2⟩ := (hX.1.2 2 _ rfl).2
        exact Option.some.inj (f1.symm.trans h2)
      subst hcA
      show H1[gb G + Hm.length]? = some (vp_cell (gW G) (n, .inr (.inr (.inr (.inr (fun i => tr G ((fun _ => -1 : Nat → Int32) i)))))))
      rw [htr, ← hH, e1]
      rfl
  have k1 := kk G p e s m args below meth c a H1 locs C' hS1 ⟨Nat.le_trans hV.1 (by omega), fun q h1 h2 => (o1 q (by have := hV.1; omega)).trans (hV.2.1 q h1 h2), hV.2.2⟩ hL (by rw [List.length_append]; simp only [List.length_cons, List.length_nil]; omega)
  have e2 : (Value.ref Hm.length :: st).map (tv G) = .ref H.size :: st.map (tv G) := by rw [List.map_cons, tv_ref, ad_lt G hlen, hH]
  rw [e2] at k1
  exact k1
end MM
