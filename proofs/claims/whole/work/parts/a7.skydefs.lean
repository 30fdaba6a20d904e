/-! ===== the rest of a line of a sky, named ===== -/
section SA7
/-- the class, behind the deed's word -/
def cSky2 (M49 : mM) : Option (Bool × mM) :=
  ob2 (ob1 (ob1 (ra M49 108 5 (nI 1)) fun v208 =>
  some (decide (v208 = (nI 26)))) fun x147 =>
  if x147 = true then
  ob2 (ob2 (ob2 (F_Reader_takeNumber (nI 0) (nI 59) (nI 2) M49) fun v186 M187 =>
  some (v186, M187)) fun x173 M175 =>
  if x173 = true then ob2 (F_Reader_takeNumber (nI 0) (nI 99) (nI 3) M175) fun v181 M182 =>
  some (v181, M182)
  else some (false, M175)) fun x170 M172 =>
  some (x170, M172)
  else
  ob1 (ob1 (ra M49 108 5 (nI 1)) fun v206 =>
  some (decide (v206 = (nI 27)))) fun x191 =>
  if x191 = true then
  ob2 (F_Reader_takeNumber (nI 1) (nI 99) (nI 2) M49) fun v197 M198 =>
  some (v197, M198)
  else
  ob2 (F_Reader_takeNumber (nI 0) (nI 9) (nI 2) M49) fun v202 M203 =>
  some (v202, M203)) fun well_134 M135 =>
  ob2 (if well_134 = true then ob2 (F_Reader_takeSign (nI 59) M135) fun v144 M145 =>
  some (v144, M145)
  else some (false, M135)) fun x141 M143 =>
  some (x141, M143)
def cSky1 (M3 : mM) : Option (Bool × mM) :=
  ob1 (ob1 (ob1 (F_Reader_isWord (nI 14) (nI 15) M3) fun v222 =>
  some (v222)) fun x212 =>
  if x212 = true then some (true)
  else ob1 (F_Reader_isWord (nI 26) (nI 27) M3) fun v220 =>
  some (v220)) fun x46 =>
  if ¬ (x46 = true) then
  ob2 (F_Reader_fail (nI 1) M3) fun v209 M210 =>
  some (v209, M210)
  else
  ob2 (F_Reader_keep (nI 1) M3) fun v48 M49 => cSky2 M49
/-- the model, behind the deed's word -/
def dSky2 (z : Nat) (at_ kk : Int32) (N17 : mM) : Option (Int32 × mM) :=
  ob2 (F_Mod_readNumber z (if kk = (nI 3) then nI 1 else nI 0) (if kk = (nI 2) then nI 59 else (if kk = (nI 3) then nI 99 else nI 9)) N17) fun v21 M22 =>
  ob1 (wa M22 328 128 (at_ + (nI 2)) v21) fun M25 =>
  ob1 (ob1 (ra M25 328 128 (at_ + (nI 2))) fun v77 =>
  some (decide (v77 = (-1)))) fun x26 =>
  if x26 = true then
  some ((-1), M25)
  else
  ob2 (if kk = (nI 2) then
  ob2 (F_Mod_readNumber z (nI 0) (nI 99) M25) fun v73 M74 =>
  some (v73, M74)
  else
  some (nI 0, M25)) fun v38 M40 =>
  ob1 (wa M40 328 128 (at_ + (nI 3)) v38) fun M42 =>
  ob2 (ob1 (ob1 (ra M42 328 128 (at_ + (nI 3))) fun v72 =>
  some (decide (v72 = (-1)))) fun x60 =>
  if x60 = true then
  some ((-1), M42)
  else
  ob2 (F_Mod_readMark z (nI 59) M42) fun v68 M69 =>
  some (v68, M69)) fun v57 M59 =>
  some (v57, M59)
def dSky1 (z : Nat) (at_ : Int32) (M5 : mM) : Option (Int32 × mM) :=
  if (F_Mod_kindOfDeed M5) = (-1) then
  ob2 (F_Mod_errs (nI 1) M5) fun v79 M80 =>
  some (v79, M80)
  else
  ob1 (F_Mod_reads z M5) fun M14 =>
  ob1 (wa M14 328 128 (at_ + (nI 1)) (F_Mod_kindOfDeed M5)) fun M17 =>
  dSky2 z at_ (F_Mod_kindOfDeed M5) M17
theorem readDeed_eq (z : Nat) (q : Int32) (N : mM) : F_Mod_readDeed z q N = (ob2 (F_Mod_readTold z (nI 18) (nI 0) (nI 999) N) fun v M2 => ob1 (wa M2 328 128 q v) fun M5 => ob1 (ob1 (ra M5 328 128 q) fun v83 => some (decide (v83 = (-1)))) fun x6 => if x6 = true then some ((-1), M5) else dSky1 z q M5) := by
  unfold F_Mod_readDeed dSky1 dSky2
  rfl
theorem readSky_eq (M : mM) : F_Reader_readSky M = ob2 (ob2 (ob2 (ob2 (F_Reader_takeFirst (nI 18) (nI 18) M) fun v246 M247 => some (v246, M247)) fun x243 M245 => some (!x243, M245)) fun x224 M226 =>
        if x224 = true then some (true, M226)
        else ob2 (ob2 (F_Reader_takeNumber (nI 0) (nI 999) (nI 0) M226) fun v240 M241 => some (v240, M241)) fun x237 M239 => some (!x237, M239)) fun x1 M3 => if x1 = true then some (false, M3) else cSky1 M3 := by
  unfold F_Reader_readSky cSky1 cSky2
  rfl
end SA7
