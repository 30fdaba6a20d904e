/-! ===== the rest of a line of a flight, named ===== -/
section SB3
/-- the class, behind the place word -/
def cFli2 (M74 : mM) : Option (Bool × mM) :=
  ob2 (ob2 (ob2 (ob2 (ob2 (ob2 (F_Reader_takeNumber (nI 1) (nI 9) (nI 2) M74) fun v472 M473 =>
  some (v472, M473)) fun x459 M461 =>
  if x459 = true then ob2 (F_Reader_takeNumber (nI 0) (nI 9) (nI 3) M461) fun v467 M468 =>
  some (v467, M468)
  else some (false, M461)) fun x433 M435 =>
  if x433 = true then ob2 (F_Reader_takeWord (nI 19) (nI 19) (nI 4) M435) fun v454 M455 =>
  some (v454, M455)
  else some (false, M435)) fun x381 M383 =>
  if x381 = true then ob2 (F_Reader_takeNumber (nI 0) (nI 59) (nI 4) M383) fun v428 M429 =>
  some (v428, M429)
  else some (false, M383)) fun x277 M279 =>
  if x277 = true then ob2 (F_Reader_takeSign (nI 59) M279) fun v376 M377 =>
  some (v376, M377)
  else some (false, M279)) fun x274 M276 =>
  some (x274, M276)
/-- the model, behind the place word -/
def dFli2 (z : Nat) (at_ : Int32) (M21 : mM) : Option (Int32 × mM) :=
  ob2 (F_Mod_readNumber z (nI 1) (nI 9) M21) fun v23 M24 =>
  ob1 (wa M24 327 160 (at_ + (nI 2)) v23) fun M27 =>
  ob1 (ob1 (ra M27 327 160 (at_ + (nI 2))) fun v87 =>
  some (decide (v87 = (-1)))) fun x28 =>
  if x28 = true then
  some ((-1), M27)
  else
  ob2 (F_Mod_readNumber z (nI 0) (nI 9) M27) fun v36 M37 =>
  ob1 (wa M37 327 160 (at_ + (nI 3)) v36) fun M40 =>
  ob1 (ob1 (ra M40 327 160 (at_ + (nI 3))) fun v85 =>
  some (decide (v85 = (-1)))) fun x41 =>
  if x41 = true then
  some ((-1), M40)
  else
  ob2 (F_Mod_readTold z (nI 25) (nI 0) (nI 59) M40) fun v49 M50 =>
  ob1 (wa M50 327 160 (at_ + (nI 4)) v49) fun M53 =>
  ob2 (ob1 (ob1 (ra M53 327 160 (at_ + (nI 4))) fun v83 =>
  some (decide (v83 = (-1)))) fun x71 =>
  if x71 = true then
  some ((-1), M53)
  else
  ob2 (F_Mod_readMark z (nI 59) M53) fun v79 M80 =>
  some (v79, M80)) fun v68 M70 =>
  some (v68, M70)
def dFli1 (z : Nat) (at_ : Int32) (M5 : mM) : Option (Int32 × mM) :=
  if (¬ ((M5 312 11) = (nI 2)) ∨ ¬ ((F_Mod_isIn (M5 312 12) (nI 19) (nI 24)) = true)) then
  ob2 (F_Mod_errs (nI 1) M5) fun v16 M17 =>
  some (v16, M17)
  else
  ob1 (wa M5 327 160 (at_ + (nI 1)) ((M5 312 12) - (nI 19))) fun M20 =>
  ob1 (F_Mod_reads z M20) fun M21 =>
  dFli2 z at_ M21
theorem readFlightLine_eq (z : Nat) (q : Int32) (N : mM) : F_Mod_readFlightLine z q N = (ob2 (F_Mod_readTold z (nI 18) (nI 0) (nI 999) N) fun v M2 => ob1 (wa M2 327 160 q v) fun M5 => ob1 (ob1 (ra M5 327 160 q) fun v83 => some (decide (v83 = (-1)))) fun x6 => if x6 = true then some ((-1), M5) else dFli1 z q M5) := by
  unfold F_Mod_readFlightLine dFli1 dFli2
  rfl
theorem readFlight_eq (M : mM) : F_Reader_readFlight M = ob2 (ob2 (ob2 (ob2 (ob2 (F_Reader_takeFirst (nI 18) (nI 18) M) fun v246 M247 => some (v246, M247)) fun x243 M245 => some (!x243, M245)) fun x224 M226 =>
        if x224 = true then some (true, M226)
        else ob2 (ob2 (F_Reader_takeNumber (nI 0) (nI 999) (nI 0) M226) fun v240 M241 => some (v240, M241)) fun x237 M239 => some (!x237, M239)) fun x475 M477 =>
        if x475 = true then some (true, M477)
        else ob2 (ob2 (F_Reader_takeWord (nI 20) (nI 25) (nI 1) M477) fun v510 M511 => some (v510, M511)) fun x507 M509 => some (!x507, M509)) fun x1 M3 => if x1 = true then some (false, M3) else
        ob1 (ra M3 108 5 (nI 1)) fun v72 => ob1 (wa M3 108 5 (nI 1) (v72 - (nI 20))) fun M74 => cFli2 M74 := by
  unfold F_Reader_readFlight cFli2
  rfl
end SB3
