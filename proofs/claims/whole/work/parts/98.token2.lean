/-! ===== one token, the whole of it, both ways ===== -/
section S98
variable {z n : Nat} {M N : mM} {tp : Nat → Nat}
theorem let_run {p : Nat} (hp : p < n) (h : isLet (tp p) = true) : p + 1 ≤ rE isLet tp n (n - (p + 1)) (p + 1) ∧ rE isLet tp n (n - (p + 1)) (p + 1) ≤ n ∧ ∀ j, j < rE isLet tp n (n - (p + 1)) (p + 1) - p → tp (p + j) ≠ 32 := by
  obtain ⟨a, b, d⟩ := rE_rng (q := isLet) (tp := tp) (n := n) (n - (p + 1)) (p + 1) (by omega)
  refine ⟨a, b, fun j hj => ?_⟩
  by_cases e : j = 0
  · rw [e]; exact let_nb h
  · exact let_nb (d (p + j) (by omega) (by omega))
theorem cw_token (hz : 1000 ≤ z) (hT : TB M N n tp) (hW : WT N) (h1 : M 100 1 = nI n) {p i : Nat} (hp : p < n) (hi : i ≤ 400) (h10 : M 100 10 = nI i) : ∃ M', F_Reader_token z (nI p) M = some (nI (tokN tp n p).2.2, M') ∧ p + 1 ≤ (tokN tp n p).2.2 ∧ (tokN tp n p).2.2 ≤ n ∧ 1 ≤ (tokN tp n p).1 ∧ CE M' i (tokN tp n p) p ∧ M' 100 10 = nI (i + 1) ∧ (∀ c' j, (c' = 105 ∨ c' = 106 ∨ c' = 107) → j ≠ i → M' c' j = M c' j) ∧ (∀ c', c' ≠ 100 → c' ≠ 105 → c' ≠ 106 → c' ≠ 107 → M' c' = M c') ∧ ∀ j, j ≠ 10 → M' 100 j = M 100 j := by
  have h4 := hT.1
  obtain ⟨b1, b2, b3⟩ := hT.2 p hp
  obtain ⟨y1, y2, y3, y4, y5, y6⟩ := by_ok b1
  have hnp : ¬ n ≤ p := by omega
  have hra : ra M 101 400 (nI p) = some (nI (tp p)) := by rw [ra_ok (by omega) (by omega), b2]
  unfold F_Reader_token
  rw [hra, ob1_ok, ob1_ok, y1, nadd]
  by_cases hl : isLet (tp p) = true
  · obtain ⟨r1, r2, r3⟩ := let_run (n := n) (tp := tp) hp hl
    obtain ⟨e, he⟩ : ∃ e, e = rE isLet tp n (n - (p + 1)) (p + 1) := ⟨_, rfl⟩
    have hrun := l_crun (z := z) hT h1 (n - (p + 1)) (p + 1) z (by omega) (by omega)
    rw [← he] at r1 r2 r3 hrun
    obtain ⟨L, hL⟩ : ∃ L, e = p + L := ⟨e - p, by omega⟩
    have hw := b_word2 (z := z) (f := p) (L := L) hz hT hW (by omega) (fun j hj => r3 j (by omega))
    rw [if_pos hl, hrun, ob1_ok, hL]
    rcases hw with ⟨k1, k2, -⟩ | ⟨k, k0, k1, k2, -⟩
    · have ht : tokN tp n p = (1, 0, e) := by
        unfold tokN
        rw [if_neg hnp, if_pos hl, ← he, show e - p = L by omega, k1]
      obtain ⟨M', a1, a2, a3, a4, a5, a6, a7, a8⟩ := ce_add hi h10 (nI 1) (-1) (nI p)
      rw [k2, ob1_ok, if_pos rfl, a1, ob1_ok, ob2_ok, ht]
      exact ⟨M', by rw [hL], r1, r2, Nat.le_refl _, ⟨a2, a4, fun h => by have h' : 2 ≤ 1 := h; omega⟩, a5, a6, a7, a8⟩
    · have ht : tokN tp n p = (3, k, e) := by
        unfold tokN
        rw [if_neg hnp, if_pos hl, ← he, show e - p = L by omega, k1]
      obtain ⟨M', a1, a2, a3, a4, a5, a6, a7, a8⟩ := ce_add hi h10 (nI 3) (nI k) (nI p)
      rw [k2, ob1_ok, if_neg (mF (by omega)), a1, ob1_ok, ob2_ok, ht]
      exact ⟨M', by rw [hL], r1, r2, by show 1 ≤ 3; omega, ⟨a2, a4, fun _ => a3⟩, a5, a6, a7, a8⟩
  · rw [if_neg hl, ob1_ok, y3, ob1_ok (a1 := isDig (tp p))]
    by_cases hd : isDig (tp p) = true
    · obtain ⟨d1, d2⟩ := dig_rng hd
      obtain ⟨q1, q2, -⟩ := rE_rng (q := isDig) (tp := tp) (n := n) (n - (p + 1)) (p + 1) (by omega)
      obtain ⟨v', g1, g2⟩ := l_cdig (z := z) (f := p) hT h1 (n - (p + 1)) (p + 1) z (nI (tp p - 48)) (tp p - 48) (by omega) (by omega) (fun _ => rfl)
      obtain ⟨e, he⟩ : ∃ e, e = rE isDig tp n (n - (p + 1)) (p + 1) := ⟨_, rfl⟩
      rw [← he] at q1 q2 g1 g2
      rw [if_pos hd, ob1_ok, nsb d1, g1, ob2_ok, nsb (by omega)]
      by_cases hlen : e - p ≤ 4
      · have ht : tokN tp n p = (2, nvN tp n (n - (p + 1)) (p + 1) (tp p - 48), e) := by
          unfold tokN
          rw [if_neg hnp, if_neg hl, if_pos hd, ← he, if_pos hlen]
        obtain ⟨M', a1, a2, a3, a4, a5, a6, a7, a8⟩ := ce_add hi h10 (nI 2) v' (nI p)
        rw [if_neg (lF hlen (by omega)), a1, ob1_ok, ob2_ok, ht]
        exact ⟨M', rfl, q1, q2, by show 1 ≤ 2; omega, ⟨a2, a4, fun _ => by rw [a3]; exact g2 (by omega)⟩, a5, a6, a7, a8⟩
      · have ht : tokN tp n p = (1, 0, e) := by
          unfold tokN
          rw [if_neg hnp, if_neg hl, if_pos hd, ← he, if_neg hlen]
        obtain ⟨M', a1, a2, a3, a4, a5, a6, a7, a8⟩ := ce_add hi h10 (nI 1) v' (nI p)
        rw [if_pos (lT (by omega) (by omega)), a1, ob1_ok, ob2_ok, ht]
        exact ⟨M', rfl, q1, q2, Nat.le_refl _, ⟨a2, a4, fun h => by have h' : 2 ≤ 1 := h; omega⟩, a5, a6, a7, a8⟩
    · unfold ixO1
      rw [if_neg hd, ob1_ok, ob1_ok, y5, ob1_ok]
      by_cases hs : isSgn (tp p) = true
      · have ht : tokN tp n p = (4, tp p, p + 1) := by
          unfold tokN
          rw [if_neg hnp, if_neg hl, if_neg hd, if_pos hs]
        obtain ⟨M', a1, a2, a3, a4, a5, a6, a7, a8⟩ := ce_add hi h10 (nI 4) (nI (tp p)) (nI p)
        rw [if_pos hs, ob1_ok, a1, ob1_ok, ob2_ok, ht]
        exact ⟨M', rfl, Nat.le_refl _, hp, by show 1 ≤ 4; omega, ⟨a2, a4, fun _ => a3⟩, a5, a6, a7, a8⟩
      · have ht : tokN tp n p = (1, 0, p + 1) := by
          unfold tokN
          rw [if_neg hnp, if_neg hl, if_neg hd, if_neg hs]
        obtain ⟨M', a1, a2, a3, a4, a5, a6, a7, a8⟩ := ce_add hi h10 (nI 1) (nI (tp p)) (nI p)
        rw [if_neg hs, ob1_ok, a1, ob1_ok, ob2_ok, ht]
        exact ⟨M', rfl, Nat.le_refl _, hp, Nat.le_refl _, ⟨a2, a4, fun h => by have h' : 2 ≤ 1 := h; omega⟩, a5, a6, a7, a8⟩
/-- what the model's reading changes -/
def FrR (N N' : mM) : Prop := (∀ c', c' ≠ 312 → N' c' = N c') ∧ ∀ j, j ≠ 9 → j ≠ 10 → j ≠ 11 → j ≠ 12 → N' 312 j = N 312 j
theorem mm_reads (hz : 1000 ≤ z) (hT : TB M N n tp) (hW : WT N) (h8 : N 312 8 = nI n) {p0 : Nat} (hp0 : p0 ≤ n) (h9 : N 312 9 = nI p0) : ∃ N', F_Mod_reads z N = some N' ∧ ME N' (tokN tp n (rE isBl tp n (n - p0) p0)) (rE isBl tp n (n - p0) p0) ∧ FrR N N' := by
  have h4 := hT.1
  obtain ⟨r1, r2, -⟩ := rE_rng (q := isBl) (tp := tp) (n := n) (n - p0) p0 hp0
  have hbl := l_mbl (z := z) (n - p0) p0 z N hT h8 h9 (by omega) (by omega)
  obtain ⟨p, hp⟩ : ∃ p, p = rE isBl tp n (n - p0) p0 := ⟨_, rfl⟩
  rw [← hp] at r1 r2 hbl ⊢
  obtain ⟨N1, d1⟩ : ∃ N1, N1 = up (up (up N 312 9 (nI p)) 312 10 (nI p)) 312 11 (nI 1) := ⟨_, rfl⟩
  have c1 : ∀ c', c' ≠ 312 → N1 c' = N c' := fun c' h => by rw [d1, upC h, upC h, upC h]
  have j1 : ∀ j, j ≠ 9 → j ≠ 10 → j ≠ 11 → N1 312 j = N 312 j := fun j a b e => by rw [d1, up_neJ _ _ _ e, up_neJ _ _ _ b, up_neJ _ _ _ a]
  have e9 : N1 312 9 = nI p := by rw [d1, up_neJ _ _ _ (by omega), up_neJ _ _ _ (by omega), up_same]
  have e10 : N1 312 10 = nI p := by rw [d1, up_neJ _ _ _ (by omega), up_same]
  have e11 : N1 312 11 = nI 1 := by rw [d1, up_same]
  have hT1 : TB M N1 n tp := TB_N hT (c1 317 (by omega))
  have h81 : N1 312 8 = nI n := by rw [j1 8 (by omega) (by omega) (by omega)]; exact h8
  unfold F_Mod_reads
  rw [hbl, ob1_ok, up_same, ob1_ok, ob1_ok, ← d1, e9]
  by_cases hn : n ≤ p
  · have epn : p = n := by omega
    have ht : tokN tp n p = (0, 0, n) := if_pos hn
    rw [ht, epn, raw_end hT1 h81, ob1_ok, if_pos rfl, ob1_ok]
    refine ⟨_, rfl, ⟨up_same _ _ _ _, by rw [up_neJ _ _ _ (by omega), e10, epn], by rw [up_neJ _ _ _ (by omega), e9, epn], fun h => by have h' : 2 ≤ 0 := h; omega⟩, fun c' h => by rw [upC h, c1 c' h], fun j a b e f => by rw [up_neJ _ _ _ e, j1 j a b e]⟩
  · obtain ⟨b1, b2, b3⟩ := hT.2 p (by omega)
    obtain ⟨y1, y2, y3, y4, y5, y6⟩ := by_ok b1
    obtain ⟨N2, d2⟩ : ∃ N2, N2 = up (up N1 312 9 (nI (p + 1))) 312 12 (nI (tp p)) := ⟨_, rfl⟩
    have c2 : ∀ c', c' ≠ 312 → N2 c' = N c' := fun c' h => by rw [d2, upC h, upC h, c1 c' h]
    have j2 : ∀ j, j ≠ 9 → j ≠ 12 → N2 312 j = N1 312 j := fun j a b => by rw [d2, up_neJ _ _ _ b, up_neJ _ _ _ a]
    have f9 : N2 312 9 = nI (p + 1) := by rw [d2, up_neJ _ _ _ (by omega), up_same]
    have f12 : N2 312 12 = nI (tp p) := by rw [d2, up_same]
    have f10 : N2 312 10 = nI p := by rw [j2 10 (by omega) (by omega)]; exact e10
    have f11 : N2 312 11 = nI 1 := by rw [j2 11 (by omega) (by omega)]; exact e11
    have hT2 : TB M N2 n tp := TB_N hT (c2 317 (by omega))
    have h82 : N2 312 8 = nI n := by rw [j2 8 (by omega) (by omega)]; exact h81
    have hW2 : WT N2 := fun j hj => by rw [c2 318 (by omega)]; exact hW j hj
    rw [raw_n hT1 h81 (by omega), ob1_ok, if_neg (mF (by omega)), nadd, ob1_ok, ob1_ok, ← d2, y2]
    by_cases hl : isLet (tp p) = true
    · obtain ⟨s1, s2, s3⟩ := let_run (n := n) (tp := tp) (show p < n by omega) hl
      have hrun := l_mlet (z := z) (n - (p + 1)) (p + 1) z N2 hT2 h82 f9 (by omega) (by omega)
      obtain ⟨e, he⟩ : ∃ e, e = rE isLet tp n (n - (p + 1)) (p + 1) := ⟨_, rfl⟩
      rw [← he] at s1 s2 s3 hrun
      obtain ⟨N3, d3⟩ : ∃ N3, N3 = up N2 312 9 (nI e) := ⟨_, rfl⟩
      rw [← d3] at hrun
      have c3 : ∀ c', c' ≠ 312 → N3 c' = N c' := fun c' h => by rw [d3, upC h, c2 c' h]
      have j3 : ∀ j, j ≠ 9 → N3 312 j = N2 312 j := fun j a => by rw [d3, up_neJ _ _ _ a]
      have g9 : N3 312 9 = nI e := by rw [d3, up_same]
      have g10 : N3 312 10 = nI p := by rw [j3 10 (by omega)]; exact f10
      obtain ⟨L, hL⟩ : ∃ L, e = p + L := ⟨e - p, by omega⟩
      have hw := b_word2 (z := z) (M := M) (N := N3) (f := p) (L := L) hz (TB_N hT (c3 317 (by omega))) (fun j hj => by rw [c3 318 (by omega)]; exact hW j hj) (by omega) (fun j hj => s3 j (by omega))
      rw [if_pos hl, hrun, ob1_ok, g10, g9, hL]
      rcases hw with ⟨k1, -, k2⟩ | ⟨k, k0, k1, -, k2⟩
      · have ht : tokN tp n p = (1, 0, e) := by
          unfold tokN
          rw [if_neg hn, if_pos hl, ← he, show e - p = L by omega, k1]
        rw [k2, ob1_ok, ob1_ok, up_same, if_neg (fun h => h rfl), ht]
        refine ⟨_, rfl, ⟨?_, by rw [up_neJ _ _ _ (by omega)]; exact g10, by rw [up_neJ _ _ _ (by omega)]; exact g9, fun h => by have h' : 2 ≤ 1 := h; omega⟩, fun c' h => by rw [upC h, c3 c' h], fun j a b e' f => by rw [up_neJ _ _ _ f, j3 j a, j2 j a f, j1 j a b e']⟩
        rw [up_neJ _ _ _ (by omega), j3 11 (by omega)]
        exact f11
      · have ht : tokN tp n p = (3, k, e) := by
          unfold tokN
          rw [if_neg hn, if_pos hl, ← he, show e - p = L by omega, k1]
        have hpm := (samW k k0).1
        rw [k2, ob1_ok, ob1_ok, up_same, if_pos (mF (by omega)), ob1_ok, ht]
        refine ⟨_, rfl, ⟨up_same _ _ _ _, by rw [up_neJ _ _ _ (by omega), up_neJ _ _ _ (by omega)]; exact g10, by rw [up_neJ _ _ _ (by omega), up_neJ _ _ _ (by omega)]; exact g9, fun _ => by rw [up_neJ _ _ _ (by omega), up_same]; rfl⟩, fun c' h => by rw [upC h, upC h, c3 c' h], fun j a b e' f => by rw [up_neJ _ _ _ e', up_neJ _ _ _ f, j3 j a, j2 j a f, j1 j a b e']⟩
    · rw [if_neg hl, y4]
      by_cases hd : isDig (tp p) = true
      · obtain ⟨q1, q2⟩ := dig_rng hd
        obtain ⟨s1, s2, -⟩ := rE_rng (q := isDig) (tp := tp) (n := n) (n - (p + 1)) (p + 1) (by omega)
        obtain ⟨N3, d3⟩ : ∃ N3, N3 = up N2 312 12 (nI (tp p - 48)) := ⟨_, rfl⟩
        have c3 : ∀ c', c' ≠ 312 → N3 c' = N c' := fun c' h => by rw [d3, upC h, c2 c' h]
        have j3 : ∀ j, j ≠ 12 → N3 312 j = N2 312 j := fun j a => by rw [d3, up_neJ _ _ _ a]
        obtain ⟨N4, g1, g2, g3, g4, g5⟩ := l_mdig (z := z) (M := M) (tp := tp) (n := n) (f := p) (n - (p + 1)) (p + 1) z (tp p - 48) N3 (TB_N hT (c3 317 (by omega))) (by rw [j3 8 (by omega)]; exact h82) (by rw [j3 9 (by omega)]; exact f9) (by omega) (by omega) (Nat.le_refl _) (fun _ => ⟨by rw [d3, up_same], by rw [Nat.add_sub_cancel_left]; omega⟩)
        obtain ⟨e, he⟩ : ∃ e, e = rE isDig tp n (n - (p + 1)) (p + 1) := ⟨_, rfl⟩
        rw [← he] at s1 s2 g2 g3
        have g10 : N4 312 10 = nI p := by rw [g5 10 (by omega) (by omega), j3 10 (by omega)]; exact f10
        have g11 : N4 312 11 = nI 1 := by rw [g5 11 (by omega) (by omega), j3 11 (by omega)]; exact f11
        rw [if_pos hd, nsb q1, ob1_ok, ← d3, g1, ob1_ok, g2, g10, nsb (by omega)]
        by_cases hlen : e - p ≤ 4
        · have ht : tokN tp n p = (2, nvN tp n (n - (p + 1)) (p + 1) (tp p - 48), e) := by
            unfold tokN
            rw [if_neg hn, if_neg hl, if_pos hd, ← he, if_pos hlen]
          rw [if_pos (lT (by omega) (by omega)), ob1_ok, ht]
          exact ⟨_, rfl, ⟨up_same _ _ _ _, by rw [up_neJ _ _ _ (by omega)]; exact g10, by rw [up_neJ _ _ _ (by omega)]; exact g2, fun _ => by rw [up_neJ _ _ _ (by omega)]; exact g3 (by omega)⟩, fun c' h => by rw [upC h, g4 c' h, c3 c' h], fun j a b e' f => by rw [up_neJ _ _ _ e', g5 j a f, j3 j f, j2 j a f, j1 j a b e']⟩
        · have ht : tokN tp n p = (1, 0, e) := by
            unfold tokN
            rw [if_neg hn, if_neg hl, if_pos hd, ← he, if_neg hlen]
          rw [if_neg (lF (by omega) (by omega)), ht]
          exact ⟨N4, rfl, ⟨g11, g10, g2, fun h => by have h' : 2 ≤ 1 := h; omega⟩, fun c' h => by rw [g4 c' h, c3 c' h], fun j a b e' f => by rw [g5 j a f, j3 j f, j2 j a f, j1 j a b e']⟩
      · rw [if_neg hd, y6]
        by_cases hs : isSgn (tp p) = true
        · have ht : tokN tp n p = (4, tp p, p + 1) := by
            unfold tokN
            rw [if_neg hn, if_neg hl, if_neg hd, if_pos hs]
          rw [if_pos hs, ob1_ok, ht]
          exact ⟨_, rfl, ⟨up_same _ _ _ _, by rw [up_neJ _ _ _ (by omega)]; exact f10, by rw [up_neJ _ _ _ (by omega)]; exact f9, fun _ => by rw [up_neJ _ _ _ (by omega)]; exact f12⟩, fun c' h => by rw [upC h, c2 c' h], fun j a b e' f => by rw [up_neJ _ _ _ e', j2 j a f, j1 j a b e']⟩
        · have ht : tokN tp n p = (1, 0, p + 1) := by
            unfold tokN
            rw [if_neg hn, if_neg hl, if_neg hd, if_neg hs]
          rw [if_neg hs, ht]
          exact ⟨N2, rfl, ⟨f11, f10, f9, fun h => by have h' : 2 ≤ 1 := h; omega⟩, c2, fun j a b e' f => by rw [j2 j a f, j1 j a b e']⟩
end S98
