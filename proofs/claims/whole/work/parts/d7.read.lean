/-! ===== a text is read: both ways ===== -/
def txN (N : mM) : mM := up (up (up (up (up N 312 28 (nI 0)) 312 29 (-1)) 312 9 (nI 0)) 312 22 (nI 0)) 312 23 (nI 0)
def RQt (q c1 : Nat) (M N : mM) : Prop := (q = 0 → ∃ i, RLaw c1 i M N) ∧ (q = 1 → RFli c1 M N) ∧ (q = 2 → RSky c1 M N) ∧ (q = 3 → RStr c1 M N)
/-- class cells that a text's reading may change -/
def FrR0 (M M' : mM) : Prop := ∀ c', ¬ (100 ≤ c' ∧ c' ≤ 108) → M' c' = M c'
section SD7
variable {z n : Nat} {M N M' N' : mM} {v : Int32}
theorem rt_1 {N0 N1 : mM} (h : F_Mod_reads z N0 = some N1) (h' : F_Mod_readFlight z N1 = some (v, N')) : F_Mod_readsText z (nI 1) N0 = some (v, N') := by
  unfold F_Mod_readsText
  rw [h, ob1_ok, if_pos rfl, h', ob2_ok]
theorem rt_2 {N0 N1 : mM} (h : F_Mod_reads z N0 = some N1) (h' : F_Mod_readSky z N1 = some (v, N')) : F_Mod_readsText z (nI 2) N0 = some (v, N') := by
  unfold F_Mod_readsText
  rw [h, ob1_ok, if_neg (show ¬ nI 2 = nI 1 from by decide), if_pos rfl, h', ob2_ok]
theorem rt_3 {N0 N1 : mM} (h : F_Mod_reads z N0 = some N1) (h' : F_Mod_readStrips z N1 = some (v, N')) : F_Mod_readsText z (nI 3) N0 = some (v, N') := by
  unfold F_Mod_readsText
  rw [h, ob1_ok, if_neg (show ¬ nI 3 = nI 1 from by decide), if_neg (show ¬ nI 3 = nI 2 from by decide), if_pos rfl, h', ob2_ok, ob2_ok]
theorem rt_0 {N0 N1 : mM} (h : F_Mod_reads z N0 = some N1) (h' : F_Mod_readLaw z N1 = some (v, N')) : F_Mod_readsText z (nI 0) N0 = some (v, N') := by
  unfold F_Mod_readsText
  rw [h, ob1_ok, if_neg (show ¬ nI 0 = nI 1 from by decide), if_neg (show ¬ nI 0 = nI 2 from by decide), if_neg (show ¬ nI 0 = nI 3 from by decide), h', ob2_ok, ob2_ok]
theorem tx_start (hz : 1000 ≤ z) (hT : TR M N n) (hW : WT N) : ∃ tp t M0 N1, (∀ k, F_Reader_read z k M = if (k < (nI 0) ∨ (nI 3) < k) then some ((-1), M0) else L_Reader_read_1 z k (fun (M133 : mM) => some (M133 102 3, M133)) z (nI 0) M0) ∧
    F_Mod_reads z (txN N) = some N1 ∧ PZ tp n t 0 M0 N1 ∧ M0 102 3 = nI 0 ∧ M0 100 6 = nI 0 ∧ M0 100 1 = nI 0 ∧ FrR0 M M0 ∧ N1 312 22 = nI 0 ∧ N1 312 23 = nI 0 ∧ FrR (txN N) N1 := by
  obtain ⟨t1, t2, t3, t4⟩ := hT
  have tb : TB M N n (fun j => (M 101 j).toNatClampNeg) := ⟨t1, fun j hj => by
    obtain ⟨b, b1, b2, b3⟩ := t4 j hj
    show (M 101 j).toNatClampNeg < 256 ∧ M 101 j = nI (M 101 j).toNatClampNeg ∧ N 317 j = nI (M 101 j).toNatClampNeg
    rw [b2, nI_clamp (by omega)]
    exact ⟨b1, rfl, b3⟩⟩
  obtain ⟨tp, etp⟩ : ∃ tp : Nat → Nat, tp = fun j => (M 101 j).toNatClampNeg := ⟨_, rfl⟩
  rw [← etp] at tb
  obtain ⟨M7, d7⟩ : ∃ M7, M7 = up (up (up (up M 100 2 (nI 0)) 100 3 (-1)) 102 3 (nI 0)) 100 6 (nI 0) := ⟨_, rfl⟩
  have c7 : ∀ c', c' ≠ 100 → c' ≠ 102 → M7 c' = M c' := fun c' a b => by rw [d7, upC a, upC b, upC a, upC a]
  have e7 : M7 100 2 = nI 0 ∧ M7 100 3 = -1 ∧ M7 102 3 = nI 0 ∧ M7 100 6 = nI 0 ∧ M7 100 1 = nI n := by
    rw [d7, up_same]
    refine ⟨?_, ?_, ?_, rfl, ?_⟩
    · rw [up_neJ _ _ _ (by omega), up_neC _ _ _ _ (by omega), up_neJ _ _ _ (by omega), up_same]
    · rw [up_neJ _ _ _ (by omega), up_neC _ _ _ _ (by omega), up_same]
    · rw [up_neC _ _ _ _ (by omega), up_same]
    · rw [up_neJ _ _ _ (by omega), up_neC _ _ _ _ (by omega), up_neJ _ _ _ (by omega), up_neJ _ _ _ (by omega)]
      exact t2
  obtain ⟨M9, t, g1, g2, g3, g4, g5⟩ := cw_split (z := z) hz hW (TB_M tb (c7 101 (by omega) (by omega))) e7.2.2.2.2
  obtain ⟨M0, d0⟩ : ∃ M0, M0 = up M9 100 1 (nI 0) := ⟨_, rfl⟩
  have j0 : ∀ j, j ≠ 1 → M0 100 j = M9 100 j := fun j h => by rw [d0, up_neJ _ _ _ h]
  have c0 : ∀ c', c' ≠ 100 → M0 c' = M9 c' := fun c' h => by rw [d0, upC h]
  have n9 : txN N 312 9 = nI 0 := by
    unfold txN
    rw [up_neJ _ _ _ (by omega), up_neJ _ _ _ (by omega), up_same]
  have n22 : txN N 312 22 = nI 0 := by
    unfold txN
    rw [up_neJ _ _ _ (by omega), up_same]
  have n23 : txN N 312 23 = nI 0 := by
    unfold txN
    rw [up_same]
  have nc : ∀ c', c' ≠ 312 → txN N c' = N c' := fun c' h => by
    unfold txN
    rw [upC h, upC h, upC h, upC h, upC h]
  have n8 : txN N 312 8 = nI n := by
    unfold txN
    rw [up_neJ _ _ _ (by omega), up_neJ _ _ _ (by omega), up_neJ _ _ _ (by omega), up_neJ _ _ _ (by omega), up_neJ _ _ _ (by omega)]
    exact t3
  have hW' : WT (txN N) := fun j hj => by rw [nc 318 (by omega)]; exact hW j hj
  have tb' : TB M (txN N) n tp := TB_N tb (nc 317 (by omega))
  obtain ⟨N1, r1, r2, r3⟩ := mm_reads (z := z) hz tb' hW' n8 (Nat.zero_le n) n9
  have hr0 : FrR0 M M0 := fun c' h => by rw [c0 c' (by omega), g4 c' (by omega) (by omega) (by omega) (by omega), c7 c' (by omega) (by omega)]
  refine ⟨tp, t, M0, N1, fun k => ?_, r1, ⟨⟨g2.1, g2.2.1, by rw [j0 10 (by omega)]; exact g2.2.2.1, g2.2.2.2.1, fun i hi => ?_⟩, Nat.zero_le _, by rw [j0 11 (by omega)]; exact g3, r2, TB_M (TB_N tb' (r3.1 317 (by omega))) (by rw [c0 101 (by omega), g4 101 (by omega) (by omega) (by omega) (by omega), c7 101 (by omega) (by omega)]), fun j hj => by rw [r3.1 318 (by omega)]; exact hW' j hj, by rw [r3.2 8 (by omega) (by omega) (by omega) (by omega)]; exact n8, by rw [j0 2 (by omega), g5 2 (by omega) (by omega)]; exact e7.1, by rw [j0 3 (by omega), g5 3 (by omega) (by omega)]; exact e7.2.1⟩, by rw [c0 102 (by omega), g4 102 (by omega) (by omega) (by omega) (by omega)]; exact e7.2.2.1, by rw [j0 6 (by omega), g5 6 (by omega) (by omega)]; exact e7.2.2.2.1, by rw [d0, up_same], hr0, by rw [r3.2 22 (by omega) (by omega) (by omega) (by omega)]; exact n22, by rw [r3.2 23 (by omega) (by omega) (by omega) (by omega)]; exact n23, r3⟩
  · unfold F_Reader_read
    rw [ob1_ok, ob1_ok, ob1_ok, ob1_ok, ← d7, g1, ob1_ok, ob1_ok, ← d0]
  · have := g2.2.2.2.2 i hi
    unfold CE at this ⊢
    rw [c0 105 (by omega), c0 106 (by omega), c0 107 (by omega)]
    exact this
theorem tx_read (hz : 1000 ≤ z) (hT : TR M N n) (hW : WT N) : ∃ M0, FrR0 M M0 ∧ M0 100 1 = nI 0 ∧ M0 100 2 = nI 0 ∧ M0 100 3 = -1 ∧ (∀ k, (k < (nI 0) ∨ (nI 3) < k) → F_Reader_read z k M = some (-1, M0)) ∧
    ∀ q, q ≤ 3 → ∃ M' N', FrR0 M M' ∧ M' 100 1 = nI 0 ∧ FrT (txN N) N' ∧
      ((F_Reader_read z (nI q) M = some (-1, M') ∧ F_Mod_readsText z (nI q) (txN N) = some (-1, N') ∧ FQ M' N') ∨
       (∃ c1, c1 ≤ 16 ∧ F_Reader_read z (nI q) M = some (nI c1, M') ∧ F_Mod_readsText z (nI q) (txN N) = some (nI c1, N') ∧ M' 102 3 = nI c1 ∧ RQt q c1 M' N' ∧ M' 100 2 = nI 0 ∧ M' 100 3 = -1)) := by
  obtain ⟨tp, t, M0, N1, g1, g2, g3, g4, g5, g6, g7, g8, g9, g10⟩ := tx_start (z := z) hz hT hW
  have h2 := g3.2.2.2.2.2.2.2
  have frc : ∀ {M' : mM}, FrC M0 M' → FrR0 M M' ∧ M' 100 1 = nI 0 := fun f => ⟨fun c' h => by rw [f.1 c' (by omega) (by omega) (by omega) (by omega) (by omega)]; exact g7 c' h, by rw [f.2 1 (by omega) (by omega) (by omega) (by omega)]; exact g6⟩
  have frt : ∀ {N' : mM}, FrT N1 N' → FrT (txN N) N' := fun f => FrT_tr (FrT_E (FrE_of g10)) f
  refine ⟨M0, g7, g6, h2.1, h2.2, fun k hk => by rw [g1, if_pos hk], fun q hq => ?_⟩
  have er : F_Reader_read z (nI q) M = L_Reader_read_1 z (nI q) (fun (M133 : mM) => some (M133 102 3, M133)) z (nI 0) M0 := by
    rw [g1, if_neg (fun e => e.elim (lF (by omega) (by omega)) (lF (by omega) (by omega)))]
  rw [er]
  have hc : q = 0 ∨ q = 1 ∨ q = 2 ∨ q = 3 := by omega
  rcases hc with rfl | rfl | rfl | rfl
  · obtain ⟨M', N', f1, f2, f3⟩ := law_loop (z := z) hz g3 g4 g5 g8 g9
    refine ⟨M', N', (frc f1).1, (frc f1).2, frt f2, ?_⟩
    rcases f3 with ⟨a1, a2, a3⟩ | ⟨c1, i', a1, a2, a3, a4, a5, a6⟩
    · exact Or.inl ⟨a1, rt_0 g2 a2, a3⟩
    · exact Or.inr ⟨c1, a1, a2, rt_0 g2 a3, a4, ⟨fun _ => ⟨i', a5⟩, fun e => (by cases e), fun e => (by cases e), fun e => (by cases e)⟩, a6.2.2.2.2.2.2.2⟩
  · obtain ⟨M', N', f1, f2, f3⟩ := fli_loop (z := z) hz g3 g4
    refine ⟨M', N', (frc f1).1, (frc f1).2, frt f2, ?_⟩
    rcases f3 with ⟨a1, a2, a3⟩ | ⟨c1, a1, a2, a3, a4, a5, a6⟩
    · exact Or.inl ⟨a1, rt_1 g2 a2, a3⟩
    · exact Or.inr ⟨c1, a1, a2, rt_1 g2 a3, a4, ⟨fun e => (by cases e), fun _ => a5, fun e => (by cases e), fun e => (by cases e)⟩, a6⟩
  · obtain ⟨M', N', f1, f2, f3⟩ := sky_loop (z := z) hz g3 g4
    refine ⟨M', N', (frc f1).1, (frc f1).2, frt f2, ?_⟩
    rcases f3 with ⟨a1, a2, a3⟩ | ⟨c1, a1, a2, a3, a4, a5, a6⟩
    · exact Or.inl ⟨a1, rt_2 g2 a2, a3⟩
    · exact Or.inr ⟨c1, a1, a2, rt_2 g2 a3, a4, ⟨fun e => (by cases e), fun e => (by cases e), fun _ => a5, fun e => (by cases e)⟩, a6⟩
  · obtain ⟨M', N', f1, f2, f3⟩ := str_loop (z := z) hz g3 g4
    refine ⟨M', N', (frc f1).1, (frc f1).2, frt f2, ?_⟩
    rcases f3 with ⟨a1, a2, a3⟩ | ⟨c1, a1, a2, a3, a4, a5, a6⟩
    · exact Or.inl ⟨a1, rt_3 g2 a2, a3⟩
    · exact Or.inr ⟨c1, a1, a2, rt_3 g2 a3, a4, ⟨fun e => (by cases e), fun e => (by cases e), fun e => (by cases e), fun _ => a5⟩, a6⟩
end SD7
