/-! what the class's parts answer, by what their rows hold -/
theorem cnt_zero {P : Nat → Bool} {n : Nat} (h : ∀ i, i < n → P i = false) : cnt P n = 0 := by
  induction n with
  | zero => rfl
  | succ n ih => simp only [cnt]; rw [ih (fun i hi => h i (by omega)), h n (by omega)]; rfl
def pGrp (grp : Nat → Int64) (g : Int64) (i : Nat) : Bool := decide (grp i = g)
def firstF (grp : Nat → Int64) (n : Nat) (g : Int64) : Nat := fstB (pGrp grp g) n
def stF (home : Nat → Int) (drp : Nat → Bool) (o : Nat) : Bool := decide (home o ≠ -1) && !drp o
def pNw (fn : Nat) (drp : Nat → Bool) (o : Nat) : Bool := decide (fn ≤ o) && !drp o
def newF (fn : Nat) (drp : Nat → Bool) (n : Nat) : Nat := cnt (pNw fn drp) n
theorem newF_0 (fn : Nat) (drp : Nat → Bool) : 0 = cnt (pNw fn drp) fn := (cnt_zero (fun i hi => by simp [pNw]; omega)).symm
def ssF (alv srs : Nat → Nat) (q : Nat) : Nat := if 0 < alv q then 0 else if 0 < srs q then 1 else 2
theorem ssF_le (alv srs : Nat → Nat) (q : Nat) : ssF alv srs q ≤ 2 := by unfold ssF; split <;> (try split) <;> omega
def pSs (alv srs : Nat → Nat) (x q : Nat) : Bool := decide (ssF alv srs q = x)
def beF (alv : Nat → Nat) (x : Int32) (q : Nat) : Bool := decide (0 < alv q) && decide (((alv q : Nat) : Int) < x.toInt)
def wtF (srt key : Nat → Int64) (kd : Nat) (sd : Int64) (o : Nat) : Int64 := if kd = 0 then srt o else if kd = 1 then srt o ^^^ (-1) else mixv (key o) sd ^^^ (-9223372036854775808)
def cbF (wt key : Nat → Int64) (x y : Nat) : Bool := if wt x ≠ wt y then decide (wt x < wt y) else if key x ≠ key y then decide (key x < key y) else decide (x < y)
def pRow (row : Nat → Nat) (o i : Nat) : Bool := decide (row i = o)
def findF (row : Nat → Nat) (n o : Nat) : Int := if fstB (pRow row o) n < n then (fstB (pRow row o) n : Int) else -1
def snH (fn : Nat) (drp : Nat → Bool) (home : Nat → Int) (q : Nat) : Nat → Nat → Int
  | 0 => home
  | i + 1 => if pNw fn drp i then va_up (snH fn drp home q i) i (q : Int) else snH fn drp home q i
theorem snH_0 (fn : Nat) (drp : Nat → Bool) (home : Nat → Int) (q : Nat) : ∀ i, i ≤ fn → snH fn drp home q i = home := by
  intro i
  induction i with
  | zero => intro _; rfl
  | succ i ih => intro h; simp only [snH]; rw [if_neg (by simp [pNw]; omega)]; exact ih (by omega)
def ebA (alv : Nat → Nat) (x : Int32) : Nat → Nat → Nat
  | 0 => alv
  | i + 1 => if beF (ebA alv x i) x i then va_up (ebA alv x i) i 0 else ebA alv x i
theorem ebA_lt {alv : Nat → Nat} {x : Int32} {b : Nat} (hb : 0 < b) (h : ∀ j, alv j < b) : ∀ i j, ebA alv x i j < b := by
  intro i
  induction i with
  | zero => exact h
  | succ i ih => intro j; simp only [ebA]; split
                 · exact up_lt ih hb j
                 · exact ih j
