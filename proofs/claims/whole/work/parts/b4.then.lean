/-! ===== the class goes on only while it reads well ===== -/
section SB4
variable {A B : mM} {b : Bool}
theorem th_id {X : Option (Bool × mM)} (hX : X = some (b, A)) : (ob2 X fun v M' => some (v, M')) = some (b, A) := by rw [hX, ob2_ok]
theorem th_f {X : Option (Bool × mM)} (hX : X = some (false, A)) (F : mM → Option (Bool × mM)) : (ob2 X fun x M1 => if x = true then ob2 (F M1) fun v M2 => some (v, M2) else some (false, M1)) = some (false, A) := by
  rw [hX, ob2_ok, if_neg Bool.false_ne_true]
theorem th_t {X : Option (Bool × mM)} (hX : X = some (true, A)) (F : mM → Option (Bool × mM)) (hF : F A = some (b, B)) : (ob2 X fun x M1 => if x = true then ob2 (F M1) fun v M2 => some (v, M2) else some (false, M1)) = some (b, B) := by
  rw [hX, ob2_ok, if_pos rfl, hF, ob2_ok]
theorem cFli2_1 {M M1 : mM} (h1 : F_Reader_takeNumber (nI 1) (nI 9) (nI 2) M = some (false, M1)) : cFli2 M = some (false, M1) := by
  unfold cFli2
  exact th_id (th_f (th_f (th_f (th_f (th_id h1) _) _) _) _)
theorem cFli2_2 {M M1 M2 : mM} (h1 : F_Reader_takeNumber (nI 1) (nI 9) (nI 2) M = some (true, M1)) (h2 : F_Reader_takeNumber (nI 0) (nI 9) (nI 3) M1 = some (false, M2)) : cFli2 M = some (false, M2) := by
  unfold cFli2
  exact th_id (th_f (th_f (th_f (th_t (th_id h1) _ h2) _) _) _)
theorem cFli2_3 {M M1 M2 M3 : mM} (h1 : F_Reader_takeNumber (nI 1) (nI 9) (nI 2) M = some (true, M1)) (h2 : F_Reader_takeNumber (nI 0) (nI 9) (nI 3) M1 = some (true, M2)) (h3 : F_Reader_takeWord (nI 19) (nI 19) (nI 4) M2 = some (false, M3)) : cFli2 M = some (false, M3) := by
  unfold cFli2
  exact th_id (th_f (th_f (th_t (th_t (th_id h1) _ h2) _ h3) _) _)
theorem cFli2_4 {M M1 M2 M3 M4 : mM} (h1 : F_Reader_takeNumber (nI 1) (nI 9) (nI 2) M = some (true, M1)) (h2 : F_Reader_takeNumber (nI 0) (nI 9) (nI 3) M1 = some (true, M2)) (h3 : F_Reader_takeWord (nI 19) (nI 19) (nI 4) M2 = some (true, M3)) (h4 : F_Reader_takeNumber (nI 0) (nI 59) (nI 4) M3 = some (false, M4)) : cFli2 M = some (false, M4) := by
  unfold cFli2
  exact th_id (th_f (th_t (th_t (th_t (th_id h1) _ h2) _ h3) _ h4) _)
theorem cFli2_5 {M M1 M2 M3 M4 M5 : mM} {b : Bool} (h1 : F_Reader_takeNumber (nI 1) (nI 9) (nI 2) M = some (true, M1)) (h2 : F_Reader_takeNumber (nI 0) (nI 9) (nI 3) M1 = some (true, M2)) (h3 : F_Reader_takeWord (nI 19) (nI 19) (nI 4) M2 = some (true, M3)) (h4 : F_Reader_takeNumber (nI 0) (nI 59) (nI 4) M3 = some (true, M4)) (h5 : F_Reader_takeSign (nI 59) M4 = some (b, M5)) : cFli2 M = some (b, M5) := by
  unfold cFli2
  exact th_id (th_t (th_t (th_t (th_t (th_id h1) _ h2) _ h3) _ h4) _ h5)
end SB4
