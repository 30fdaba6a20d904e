/-! ===== the tape: feed and end, both ways ===== -/
theorem sh_u24 (x : Int32) : (jushr x (nI 24)).toBitVec = x.toBitVec >>> 24 := rfl
theorem sh_s24 (x : Int32) : (jshr x (nI 24)).toBitVec = x.toBitVec.sshiftRight 24 := rfl
theorem sh_u16 (x : Int32) : (jushr x (nI 16)).toBitVec = x.toBitVec >>> 16 := rfl
theorem sh_s16 (x : Int32) : (jshr x (nI 16)).toBitVec = x.toBitVec.sshiftRight 16 := rfl
theorem sh_u8 (x : Int32) : (jushr x (nI 8)).toBitVec = x.toBitVec >>> 8 := rfl
theorem sh_s8 (x : Int32) : (jshr x (nI 8)).toBitVec = x.toBitVec.sshiftRight 8 := rfl
theorem sh_u0 (x : Int32) : (jushr x (nI 0)).toBitVec = x.toBitVec >>> 0 := rfl
theorem sh_s0 (x : Int32) : (jshr x (nI 0)).toBitVec = x.toBitVec.sshiftRight 0 := rfl
theorem bv_same (v : BitVec 32) {s : Nat} (hs : s + 8 ≤ 32) : (v >>> s) &&& BitVec.ofNat 32 255 = v.sshiftRight s &&& BitVec.ofNat 32 255 := by
  apply BitVec.eq_of_getLsbD_eq
  intro i hi
  rw [BitVec.getLsbD_and, BitVec.getLsbD_and, BitVec.getLsbD_ushiftRight, BitVec.getLsbD_sshiftRight]
  by_cases h : i < 8
  · have h1 : s + i < 32 := by omega
    rw [if_pos h1, decide_eq_false (show ¬ 32 ≤ i by omega)]
    rfl
  · have h2 : (BitVec.ofNat 32 255).getLsbD i = false := by
      rw [BitVec.getLsbD_ofNat, show (255 : Nat) = 2 ^ 8 - 1 from rfl, Nat.testBit_two_pow_sub_one, decide_eq_false h, Bool.and_false]
    rw [h2, Bool.and_false, Bool.and_false]
theorem sh_eq (x : Int32) {s : Nat} (hs : s = 24 ∨ s = 16 ∨ s = 8 ∨ s = 0) : jushr x (nI s) &&& nI 255 = jshr x (nI s) &&& nI 255 := by
  apply Int32.toBitVec_inj.mp
  rw [Int32.toBitVec_and, Int32.toBitVec_and, nI_bv]
  rcases hs with rfl | rfl | rfl | rfl
  · rw [sh_u24, sh_s24, bv_same _ (by omega)]
  · rw [sh_u16, sh_s16, bv_same _ (by omega)]
  · rw [sh_u8, sh_s8, bv_same _ (by omega)]
  · rw [sh_u0, sh_s0, bv_same _ (by omega)]
theorem byte_ok (x : Int32) : ∃ b, b < 256 ∧ x &&& nI 255 = nI b := by
  refine ⟨(x.toBitVec &&& BitVec.ofNat 32 255).toNat, ?_, ?_⟩
  · rw [BitVec.toNat_and]
    have h : (BitVec.ofNat 32 255).toNat < 2 ^ 8 := by decide
    exact Nat.and_lt_two_pow _ h
  · apply Int32.toBitVec_inj.mp
    rw [Int32.toBitVec_and, nI_bv, nI_bv]
    rw [BitVec.ofNat_toNat, BitVec.setWidth_eq]
section S86
variable {z : Nat} {M N : mM}
/-- both tapes: n bytes -/
def TR (M N : mM) (n : Nat) : Prop := n ≤ 400 ∧ M 100 1 = nI n ∧ N 312 8 = nI n ∧ ∀ j, j < n → ∃ b, b < 256 ∧ M 101 j = nI b ∧ N 317 j = nI b
theorem TR_cg {M' N' : mM} {n : Nat} (h : TR M N n) (e1 : M' 100 1 = M 100 1) (e2 : M' 101 = M 101) (e3 : N' 312 8 = N 312 8) (e4 : N' 317 = N 317) : TR M' N' n := by
  unfold TR at *
  rw [e1, e2, e3, e4]
  exact h
theorem tr_add {n : Nat} (h : TR M N n) (hn : n < 400) {b : Nat} (hb : b < 256) : TR (up (up M 101 n (nI b)) 100 1 (nI (n + 1))) (up (up N 317 n (nI b)) 312 8 (nI (n + 1))) (n + 1) := by
  obtain ⟨h1, h2, h3, h4⟩ := h
  refine ⟨by omega, up_same _ _ _ _, up_same _ _ _ _, fun j hj => ?_⟩
  rw [upC (c' := 101) (by omega), upC (c' := 317) (by omega)]
  by_cases e : j = n
  · exact ⟨b, hb, by rw [e, up_same], by rw [e, up_same]⟩
  · rw [up_neJ _ _ _ e, up_neJ _ _ _ e]
    exact h4 j (by omega)
def OKTR (M M' N N' : mM) : Prop := (∀ c', c' ≠ 100 → c' ≠ 101 → M' c' = M c') ∧ (∀ j, j ≠ 1 → M' 100 j = M 100 j) ∧ (∀ c', c' ≠ 312 → c' ≠ 317 → N' c' = N c') ∧ ∀ j, j ≠ 8 → N' 312 j = N 312 j
theorem OKTR_rf : OKTR M M N N := ⟨fun _ _ _ => rfl, fun _ _ => rfl, fun _ _ _ => rfl, fun _ _ => rfl⟩
theorem OKTR_tr {M1 M' N1 N' : mM} (h : OKTR M M1 N N1) (h' : OKTR M1 M' N1 N') : OKTR M M' N N' :=
  ⟨fun c' a b => (h'.1 c' a b).trans (h.1 c' a b), fun j a => (h'.2.1 j a).trans (h.2.1 j a), fun c' a b => (h'.2.2.1 c' a b).trans (h.2.2.1 c' a b), fun j a => (h'.2.2.2 j a).trans (h.2.2.2 j a)⟩
theorem OKTR_add {n : Nat} {x y u w : Int32} : OKTR M (up (up M 101 n x) 100 1 y) N (up (up N 317 n u) 312 8 w) := by
  refine ⟨fun c' a b => ?_, fun j a => ?_, fun c' a b => ?_, fun j a => ?_⟩
  · rw [upC a, upC b]
  · rw [up_neJ _ _ _ a, up_neC _ _ _ _ (by omega)]
  · rw [upC a, upC b]
  · rw [up_neJ _ _ _ a, up_neC _ _ _ _ (by omega)]
theorem l_four (v : Int32) : ∀ (m n k : Nat) (M N : mM) (x : Int32), m ≤ 4 → x = nI (8 * m) - nI 8 → m < k → TR M N n → n + m ≤ 400 →
    ∃ M' N', L_Reader_append_1 z v k x M = some M' ∧ L_Mod_types_1 z v k x N = some N' ∧ TR M' N' (n + m) ∧ OKTR M M' N N' := by
  intro m
  induction m with
  | zero =>
    intro n k M N x hm hx hk hT hn
    obtain ⟨k, rfl⟩ : ∃ i, k = i + 1 := ⟨k - 1, by omega⟩
    have hneg : x < nI 0 := by rw [hx]; decide
    rw [L_Reader_append_1, L_Mod_types_1, if_neg (fun h => h.1 hneg), if_neg (fun h => h hneg)]
    exact ⟨M, N, rfl, rfl, hT, OKTR_rf⟩
  | succ m ih =>
    intro n k M N x hm hx hk hT hn
    obtain ⟨k, rfl⟩ : ∃ i, k = i + 1 := ⟨k - 1, by omega⟩
    have hx' : x = nI (8 * m) := by rw [hx, show 8 * (m + 1) = 8 * m + 8 by omega, nsb (by omega), Nat.add_sub_cancel]
    subst hx'
    have hstep : nI (8 * m) + (-8) = nI (8 * m) - nI 8 := by rw [show nI 8 = (8 : Int32) from rfl]; grind
    obtain ⟨b, hb, eb⟩ := byte_ok (jshr v (nI (8 * m)))
    obtain ⟨h1, h2, h3, h4⟩ := id hT
    obtain ⟨M', N', g1, g2, g3, g4⟩ := ih (n + 1) k (up (up M 101 n (nI b)) 100 1 (nI (n + 1))) (up (up N 317 n (nI b)) 312 8 (nI (n + 1))) _ (by omega) hstep (by omega) (tr_add hT (by omega) hb) (by omega)
    refine ⟨M', N', ?_, ?_, by rw [show n + (m + 1) = n + 1 + m by omega]; exact g3, OKTR_tr OKTR_add g4⟩
    · rw [L_Reader_append_1, h2, if_pos ⟨lF (Nat.zero_le _) (by omega), lT (by omega) (by omega)⟩, ob1_ok, sh_eq v (by omega), eb, wa_ok (by omega) (by omega), ob1_ok, up_neC _ _ _ _ (by omega), h2, nadd, ob1_ok]
      exact g1
    · rw [L_Mod_types_1, if_pos (lF (Nat.zero_le _) (by omega)), h3, eb, wa_ok (by omega) (by omega), ob1_ok, up_neC _ _ _ _ (by omega), h3, nadd, ob1_ok]
      exact g2
theorem b_four (hz : 100 ≤ z) (v : Int32) {n : Nat} (hT : TR M N n) (hn : n + 4 ≤ 400) : ∃ M' N', F_Reader_append z v M = some M' ∧ F_Mod_types z v N = some N' ∧ TR M' N' (n + 4) ∧ OKTR M M' N N' := by
  obtain ⟨M', N', g1, g2, g3, g4⟩ := l_four (z := z) v 4 n z M N (nI 24) (by omega) (by decide) (by omega) hT hn
  refine ⟨M', N', ?_, ?_, g3, g4⟩
  · unfold F_Reader_append
    rw [g1, ob1_ok]
  · unfold F_Mod_types
    rw [g2, ob1_ok]
theorem b_feed (hz : 100 ≤ z) {n : Nat} (hT : TR M N n) (a b c d e : Int32) : ∃ v M' N' n', F_Rec_feed z a b c d e M = some (v, M') ∧ F_Mod_feed z a b c d e N = some (v, N') ∧ TR M' N' n' ∧ OKTR M M' N N' := by
  obtain ⟨h1, h2, h3, h4⟩ := id hT
  unfold F_Rec_feed F_Mod_feed
  rw [h2, h3, nadd]
  by_cases h : 380 < n
  · rw [if_pos (lT (by omega) (by omega)), if_pos (lT (by omega) (by omega))]
    exact ⟨_, M, N, n, rfl, rfl, hT, OKTR_rf⟩
  · obtain ⟨M1, N1, p1, q1, t1, o1⟩ := b_four hz a hT (by omega)
    obtain ⟨M2, N2, p2, q2, t2, o2⟩ := b_four hz b t1 (by omega)
    obtain ⟨M3, N3, p3, q3, t3, o3⟩ := b_four hz c t2 (by omega)
    obtain ⟨M4, N4, p4, q4, t4, o4⟩ := b_four hz d t3 (by omega)
    obtain ⟨M5, N5, p5, q5, t5, o5⟩ := b_four hz e t4 (by omega)
    rw [if_neg (lF (by omega) (by omega)), if_neg (lF (by omega) (by omega)), p1, ob1_ok, p2, ob1_ok, p3, ob1_ok, p4, ob1_ok, p5, ob1_ok, q1, ob1_ok, q2, ob1_ok, q3, ob1_ok, q4, ob1_ok, q5, ob1_ok, t5.2.1, t5.2.2.1]
    exact ⟨_, M5, N5, _, rfl, rfl, t5, OKTR_tr o1 (OKTR_tr o2 (OKTR_tr o3 (OKTR_tr o4 o5)))⟩
theorem b_end {n : Nat} (hT : TR M N n) (x : Int32) : ∃ v M' N' n', F_Rec_end x M = some (v, M') ∧ F_Mod_end x N = some (v, N') ∧ TR M' N' n' ∧ OKTR M M' N N' := by
  obtain ⟨h1, h2, h3, h4⟩ := id hT
  unfold F_Rec_end F_Mod_end
  rw [h2, h3, isIn_eq]
  by_cases h : F_Rec_within x (nI 0) (nI n) = true
  · obtain ⟨k, -, hk, rfl⟩ := rng_n (by omega) (by omega) (of_decide_eq_true h)
    rw [if_neg (fun h' => h'.elim (lF (Nat.zero_le _) (by omega)) (lF hk (by omega))), if_neg (show ¬ ¬ F_Rec_within (nI k) (nI 0) (nI n) = true from fun h' => h' h), ob1_ok, ob1_ok]
    refine ⟨_, _, _, k, rfl, rfl, ⟨by omega, up_same _ _ _ _, up_same _ _ _ _, fun j hj => ?_⟩, fun c' a b => upC a, fun j a => up_neJ _ _ _ a, fun c' a b => upC a, fun j a => up_neJ _ _ _ a⟩
    rw [up_neC _ _ _ _ (by omega), up_neC _ _ _ _ (by omega)]
    exact h4 j (by omega)
  · have h' : x < nI 0 ∨ nI n < x := by
      by_cases e : x < nI 0
      · exact Or.inl e
      · by_cases e2 : nI n < x
        · exact Or.inr e2
        · exact absurd (decide_eq_true ⟨e, e2⟩) h
    rw [if_pos h', if_pos h]
    exact ⟨_, M, N, n, rfl, rfl, hT, OKTR_rf⟩
end S86
