/-! what the reference's reads answer -/
theorem bI_tt {b : Bool} (h : b = true) : nI 1 = bI b := by rw [h]; rfl
theorem bI_ff {b : Bool} (h : b = false) : nI 0 = bI b := by rw [h]; rfl
theorem nI_incc (a c : Nat) : nI a + Int32.ofInt (c : Int) = nI (a + c) := by
  rw [← nI_add, ← zI_n c]; rfl
theorem nz_sub (a b : Nat) : nI a - nI b = zI ((a : Int) - (b : Int)) := by rw [← zI_n, ← zI_n, zI_sub]
theorem nb_add (a : Nat) (b : Bool) : nI a + bI b = nI (a + (if b then 1 else 0)) := by
  cases b
  · exact nI_add a 0
  · exact nI_add a 1
theorem iz_add {x y : Int32} {a b : Int} (h1 : x.toInt = a) (h2 : y.toInt = b) : x + y = zI (a + b) := by rw [← h1, ← h2, ← zI_add, zI_self, zI_self]
theorem iz_sub {x y : Int32} {a b : Int} (h1 : x.toInt = a) (h2 : y.toInt = b) : x - y = zI (a - b) := by rw [← h1, ← h2, ← zI_sub, zI_self, zI_self]
def m_in (M : MT) (v o : Nat) : Bool := m_has M (300 * v + o)
def pLive (M : MT) (q o : Nat) : Bool := decide (m_seg M o = (q : Int)) && !m_isN M o && !m_drp M o
def liveIn (M : MT) (q : Nat) : Nat := cnt (pLive M q) (m_n M)
def pSeen (M : MT) (q v : Nat) : Bool := !decide (m_st M v = 2) && m_sees M (40 * v + q)
def seenBy (M : MT) (q : Nat) : Nat := cnt (pSeen M q) (m_vn M)
def stateOf (M : MT) (q : Nat) : Nat := if 0 < liveIn M q then 0 else if 0 < seenBy M q then 1 else 2
theorem stateOf_le (M : MT) (q : Nat) : stateOf M q ≤ 2 := by unfold stateOf; split <;> (try split) <;> omega
def pState (M : MT) (x q : Nat) : Bool := decide (stateOf M q = x)
def countOf (M : MT) (x : Nat) : Nat := cnt (pState M x) (m_sn M)
def pNew (M : MT) (o : Nat) : Bool := m_isN M o && !m_drp M o
def newOnes (M : MT) : Nat := cnt (pNew M) (m_n M)
def sizeOf (M : MT) (v : Nat) : Nat := cnt (m_in M v) (m_n M)
def mixv (k sd : Int64) : Int64 :=
  let z := k ^^^ sd * (-7046029254386353131)
  let z := (z ^^^ (z.toUInt64 >>> ((nI 30).toInt64.toUInt64 &&& Int64.toUInt64 63)).toInt64) * (-4658895280553007687)
  let z := (z ^^^ (z.toUInt64 >>> ((nI 27).toInt64.toUInt64 &&& Int64.toUInt64 63)).toInt64) * (-7723592293110705685)
  z ^^^ (z.toUInt64 >>> ((nI 31).toInt64.toUInt64 &&& Int64.toUInt64 63)).toInt64
def wtA (M : MT) (kd : Nat) (sd : Int64) (x y : Nat) : Int64 := if kd = 0 then m_srt M x else if kd = 1 then m_srt M y else mixv (m_key M x) sd ^^^ (-9223372036854775808)
theorem wtA0 {M : MT} {kd : Nat} {sd : Int64} {x y : Nat} (h : kd = 0) : wtA M kd sd x y = m_srt M x := by unfold wtA; rw [if_pos h]
theorem wtA1 {M : MT} {kd : Nat} {sd : Int64} {x y : Nat} (h : kd = 1) : wtA M kd sd x y = m_srt M y := by unfold wtA; rw [if_neg (by omega), if_pos h]
theorem wtA2 {M : MT} {kd : Nat} {sd : Int64} {x y : Nat} (h0 : 0 < kd) (h1 : kd ≠ 1) : wtA M kd sd x y = mixv (m_key M x) sd ^^^ (-9223372036854775808) := by unfold wtA; rw [if_neg (by omega), if_neg h1]
/-- whether an object is ahead of another -/
def aheadB (M : MT) (kd : Nat) (sd : Int64) (x y : Nat) : Bool :=
  if wtA M kd sd x y ≠ wtA M kd sd y x then decide (wtA M kd sd x y < wtA M kd sd y x) else if m_key M x ≠ m_key M y then decide (m_key M x < m_key M y) else decide (x < y)
def pRank (M : MT) (v o kd : Nat) (sd : Int64) (p : Nat) : Bool := m_in M v p && aheadB M kd sd p o
def rankM (M : MT) (v o kd : Nat) (sd : Int64) : Nat := cnt (pRank M v o kd sd) (m_n M)
/-- none of the first n has it -/
def allF (P : Nat → Bool) : Nat → Bool
  | 0 => true
  | n + 1 => allF P n && !P n
theorem allF_le {P : Nat → Bool} {i n : Nat} (h : i ≤ n) (hf : allF P i = false) : allF P n = false := by
  induction n with
  | zero => rw [Nat.le_zero.mp h] at hf; exact hf
  | succ n ih =>
    rcases Nat.lt_or_ge i (n + 1) with q | q
    · simp only [allF, ih (by omega), Bool.false_and]
    · rw [← (show i = n + 1 by omega)]; exact hf
def pOwn (M : MT) (v o kd : Nat) (sd : Int64) (p : Nat) : Bool := m_in M v p && decide (m_grp M p = m_grp M o) && aheadB M kd sd p o
def isFirstB (M : MT) (v o kd : Nat) (sd : Int64) : Bool := m_in M v o && allF (pOwn M v o kd sd) (m_n M)
def groupCount (M : MT) (v : Nat) : Nat := cnt (fun o => isFirstB M v o 0 0) (m_n M)
def pOf (M : MT) (v : Nat) (g : Int64) (o : Nat) : Bool := m_in M v o && decide (m_grp M o = g)
def countIn (M : MT) (v : Nat) (g : Int64) : Nat := cnt (pOf M v g) (m_n M)
/-- the rest of a mix, without sign, by a number of slices -/
def sliceV (k : Int64) (mn : Nat) : Int64 :=
  let z := mixv k 0
  let h := (z.toUInt64 >>> ((nI 1).toInt64.toUInt64 &&& Int64.toUInt64 63)).toInt64
  let r := (h - h / (nI mn).toInt64 * (nI mn).toInt64) * 2 + (z &&& 1)
  r - r / (nI mn).toInt64 * (nI mn).toInt64
def sliceB (M : MT) (o mn wh : Nat) : Bool := decide (sliceV (m_key M o) mn = (nI wh).toInt64)
theorem nIl_ne {mn : Nat} (h0 : 0 < mn) (h : mn < 2147483648) : ¬ (nI mn).toInt64 = 0 := by
  rw [nI_l (by omega)]
  intro q
  have := (lN_eq (a := mn) (b := 0) (by omega) (by omega)).mp q
  omega
/-- the candidates of 'following' -/
def pFol (M : MT) (v : Nat) (gd : Bool) (g : Int64) (mn wh o : Nat) : Bool := m_in M v o && (!gd || decide (m_grp M o = g)) && (decide (mn = 0) || sliceB M o mn wh)
/-- the first behind, among the first n -/
def folB (M : MT) (v kd : Nat) (sd : Int64) (bh : Int) (gd : Bool) (g : Int64) (mn wh : Nat) : Nat → Int
  | 0 => -1
  | n + 1 => let b := folB M v kd sd bh gd g mn wh n
             if pFol M v gd g mn wh n && (decide (bh < 0) || aheadB M kd sd bh.toNat n) && (decide (b < 0) || aheadB M kd sd n b.toNat) then (n : Int) else b
theorem folB_in (M : MT) (v kd : Nat) (sd : Int64) (bh : Int) (gd : Bool) (g : Int64) (mn wh n : Nat) : -1 ≤ folB M v kd sd bh gd g mn wh n ∧ folB M v kd sd bh gd g mn wh n < (n : Int) := by
  induction n with
  | zero => simp [folB]
  | succ n ih => simp only [folB]; split <;> omega
def following (M : MT) (v kd : Nat) (sd : Int64) (bh : Int) (gd : Bool) (g : Int64) (mn wh : Nat) : Int := folB M v kd sd bh gd g mn wh (m_n M)
theorem following_in (M : MT) (v kd : Nat) (sd : Int64) (bh : Int) (gd : Bool) (g : Int64) (mn wh : Nat) : -1 ≤ following M v kd sd bh gd g mn wh ∧ following M v kd sd bh gd g mn wh < (m_n M : Int) := folB_in _ _ _ _ _ _ _ _ _ _
def nextOf (M : MT) (r : Nat) : Int := following M (m_vo M r) (m_ko M r) (m_sd M r) (m_la M r) (m_isG M r) (m_go M r) (if m_isC M r then m_sl M r else 0) (m_sc M r)
def againstM (M : MT) (x y z : Int32) : Nat := if ¬ (0 ≤ x.toInt ∧ x.toInt < (m_vn M : Int)) ∨ z.toInt < 0 ∨ ((groupCount M x.toInt.toNat : Nat) : Int) ≤ z.toInt then 1 else if ¬ (0 ≤ y.toInt ∧ y.toInt < 3) then 2 else 0
theorem isFirst_end {P : Nat → Bool} {x b : Bool} {i n : Nat} (hbk : b = (x && allF P i)) (hi : i ≤ n) (hb : b = false) : bI b = bI (x && allF P n) := by
  congr 1
  rw [hb]
  cases x with
  | false => rfl
  | true =>
    rw [Bool.true_and] at hbk ⊢
    exact (allF_le hi (by rw [← hbk, hb])).symm
theorem zI_toNat {z : Int} (h : 0 ≤ z) : zI z = nI z.toNat := by
  have h2 : z = ((z.toNat : Nat) : Int) := by omega
  rw [← zI_n, ← h2]
