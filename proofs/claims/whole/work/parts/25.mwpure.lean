/-! what the reference's writes do -/
/-- a number that is none below 0 -/
def ix (x : Int32) : Nat := x.toInt.toNat
theorem ix_c (x : Int32) : 0 ≤ x.toInt → ((ix x : Nat) : Int) = x.toInt := fun h => by unfold ix; omega
theorem ix_n {x : Int32} (h : 0 ≤ x.toInt) : x = nI (ix x) := zI_nat h
theorem up_lt {f : Nat → Nat} {k v b : Nat} (h : ∀ j, f j < b) (hv : v < b) : ∀ j, va_up f k v j < b := by
  intro j; unfold va_up; split <;> simp [*]
theorem up_in {f : Nat → Int} {k : Nat} {v b : Int} (h : ∀ j, -1 ≤ f j ∧ f j < b) (hv : -1 ≤ v ∧ v < b) : ∀ j, -1 ≤ va_up f k v j ∧ va_up f k v j < b := by
  intro j; unfold va_up; split
  · exact hv
  · exact h j
-- add
def addR (M : MT) : Int32 := if m_n M = 300 then zI (-4) else nI (m_n M)
def addM (M : MT) (g k s : Int64) : MT := if m_n M = 300 then M else (mkM (m_n M + 1) (m_sn M) (m_vn M) (m_rn M) (m_pn M) (m_nw M) (va_up (m_grp M) (m_n M) (g)) (va_up (m_key M) (m_n M) (k)) (va_up (m_srt M) (m_n M) (s)) (m_sd M) (m_go M) (va_up (m_seg M) (m_n M) (((-1) : Int))) (m_la M) (va_up (m_isN M) (m_n M) (true)) (m_drp M) (m_has M) (m_sees M) (m_isC M) (m_isG M) (m_ov M) (m_st M) (m_vo M) (m_ko M) (m_sl M) (m_sc M) (m_kp M) (m_en M) (m_pg M))
-- drop
def dropT (M : MT) (x : Int32) : Nat := if (x.toInt < 0 ∨ ((m_n M : Nat) : Int) ≤ x.toInt) then 1 else 0
def dropR (M : MT) (x : Int32) : Bool := if (x.toInt < 0 ∨ ((m_n M : Nat) : Int) ≤ x.toInt) then false else !m_drp M (ix x)
def dropM (M : MT) (x : Int32) : MT := if (x.toInt < 0 ∨ ((m_n M : Nat) : Int) ≤ x.toInt) then M else (mkM (m_n M) (m_sn M) (m_vn M) (m_rn M) (m_pn M) (m_nw M) (m_grp M) (m_key M) (m_srt M) (m_sd M) (m_go M) (m_seg M) (m_la M) (m_isN M) (va_up (m_drp M) (ix x) (true)) (m_has M) (m_sees M) (m_isC M) (m_isG M) (m_ov M) (m_st M) (m_vo M) (m_ko M) (m_sl M) (m_sc M) (m_kp M) (m_en M) (m_pg M))
-- commit
def cmN (M : MT) : Nat → Nat → Bool
  | 0 => m_isN M
  | i + 1 => if m_isN M i then va_up (cmN M i) i false else cmN M i
def cmS (M : MT) : Nat → Nat → Int
  | 0 => m_seg M
  | i + 1 => if m_isN M i then va_up (cmS M i) i (if m_drp M i then -1 else (m_sn M : Int)) else cmS M i
theorem cmN_at (M : MT) : ∀ (i j : Nat), i ≤ j → cmN M i j = m_isN M j := by
  intro i
  induction i with
  | zero => intro j _; rfl
  | succ i ih => intro j h; simp only [cmN]; split
                 · rw [va_up_ne _ _ (by omega)]; exact ih j (by omega)
                 · exact ih j (by omega)
def commitR (M : MT) : Int32 := if 0 < newOnes M ∧ m_sn M = 40 then zI (-4) else nI (newOnes M)
def commitM (M : MT) : MT := if 0 < newOnes M ∧ m_sn M = 40 then M else (mkM (m_n M) (m_sn M + (if 0 < newOnes M then 1 else 0)) (m_vn M) (m_rn M) (m_pn M) (m_nw M) (m_grp M) (m_key M) (m_srt M) (m_sd M) (m_go M) (cmS M (m_n M)) (m_la M) (cmN M (m_n M)) (m_drp M) (m_has M) (m_sees M) (m_isC M) (m_isG M) (m_ov M) (m_st M) (m_vo M) (m_ko M) (m_sl M) (m_sc M) (m_kp M) (m_en M) (m_pg M))
-- object, segment
def objT (M : MT) (x y : Int32) : Nat := if (x.toInt < 0 ∨ ((m_n M : Nat) : Int) ≤ x.toInt) ∨ y.toInt < 0 ∨ 4 < y.toInt then 1 else 0
def objR (M : MT) (x y : Int32) : Int64 := if (x.toInt < 0 ∨ ((m_n M : Nat) : Int) ≤ x.toInt) ∨ y.toInt < 0 ∨ 4 < y.toInt then (nI 0).toInt64 else if y.toInt = 0 then m_grp M (ix x) else if y.toInt = 1 then m_key M (ix x) else if y.toInt = 2 then m_srt M (ix x) else if y.toInt = 3 then (zI (m_seg M (ix x))).toInt64 else if m_drp M (ix x) then 1 else 0
def segT (M : MT) (x y : Int32) : Nat := if (x.toInt < 0 ∨ ((m_sn M : Nat) : Int) ≤ x.toInt) ∨ y.toInt < 0 ∨ 2 < y.toInt then 1 else 0
def segR (M : MT) (x y : Int32) : Int32 := if (x.toInt < 0 ∨ ((m_sn M : Nat) : Int) ≤ x.toInt) ∨ y.toInt < 0 ∨ 2 < y.toInt then nI 0 else if y.toInt = 0 then nI (liveIn M (ix x)) else if y.toInt = 1 then nI (stateOf M (ix x)) else nI (seenBy M (ix x))
-- view
def pStand (M : MT) (o : Nat) : Bool := !m_isN M o && !m_drp M o && decide (0 ≤ m_seg M o)
def vwH (M : MT) : Nat → Nat → Bool
  | 0 => m_has M
  | i + 1 => if pStand M i then va_up (vwH M i) (300 * m_vn M + i) true else vwH M i
def vwS (M : MT) : Nat → Nat → Bool
  | 0 => m_sees M
  | i + 1 => if pStand M i then va_up (vwS M i) (40 * m_vn M + (m_seg M i).toNat) true else vwS M i
def viewR (M : MT) : Int32 := if m_vn M = 30 then zI (-4) else nI (m_vn M)
def viewM (M : MT) : MT := if m_vn M = 30 then M else (mkM (m_n M) (m_sn M) (m_vn M + 1) (m_rn M) (m_pn M) (m_nw M) (m_grp M) (m_key M) (m_srt M) (m_sd M) (m_go M) (m_seg M) (m_la M) (m_isN M) (m_drp M) (vwH M (m_n M)) (vwS M (m_n M)) (m_isC M) (m_isG M) (m_ov M) (m_st M) (m_vo M) (m_ko M) (m_sl M) (m_sc M) (m_kp M) (m_en M) (m_pg M))
-- settle
def anyB (P : Nat → Bool) : Nat → Bool
  | 0 => false
  | n + 1 => anyB P n || P n
def pHeld (M : MT) (v r : Nat) : Bool := decide (m_vo M r = v) && !m_ov M r
def heldB (M : MT) (v : Nat) : Bool := anyB (pHeld M v) (m_rn M)
def clrH (M : MT) (v : Nat) : Nat → Nat → Bool
  | 0 => m_has M
  | i + 1 => va_up (clrH M v i) (300 * v + i) false
def settleM (M : MT) (v : Nat) : MT := if m_st M v = 0 then M else if heldB M v then (mkM (m_n M) (m_sn M) (m_vn M) (m_rn M) (m_pn M) (m_nw M) (m_grp M) (m_key M) (m_srt M) (m_sd M) (m_go M) (m_seg M) (m_la M) (m_isN M) (m_drp M) (m_has M) (m_sees M) (m_isC M) (m_isG M) (m_ov M) (va_up (m_st M) (v) (1)) (m_vo M) (m_ko M) (m_sl M) (m_sc M) (m_kp M) (m_en M) (m_pg M)) else (mkM (m_n M) (m_sn M) (m_vn M) (m_rn M) (m_pn M) (m_nw M) (m_grp M) (m_key M) (m_srt M) (m_sd M) (m_go M) (m_seg M) (m_la M) (m_isN M) (m_drp M) (clrH M v 300) (m_sees M) (m_isC M) (m_isG M) (m_ov M) (va_up (m_st M) (v) (2)) (m_vo M) (m_ko M) (m_sl M) (m_sc M) (m_kp M) (m_en M) (m_pg M))
theorem ok_settle {M : MT} (hM : mOk M) (v : Nat) : mOk (settleM M v) := by
  obtain ⟨h1, h2, h3, h4, h5, h6, h7, h8, h9, h10⟩ := id hM
  unfold settleM
  split
  · exact hM
  · split
    · exact ⟨h1, h2, h3, h4, h5, h6, h7, h8, up_lt h9 (by omega), h10⟩
    · exact ⟨h1, h2, h3, h4, h5, h6, h7, h8, up_lt h9 (by omega), h10⟩
-- letGo
def letGoT (M : MT) (x : Int32) : Nat := if (x.toInt < 0 ∨ ((m_vn M : Nat) : Int) ≤ x.toInt) then 1 else if m_st M (ix x) = 0 then 0 else 2
def letGo1 (M : MT) (x : Int32) : MT := (mkM (m_n M) (m_sn M) (m_vn M) (m_rn M) (m_pn M) (m_nw M) (m_grp M) (m_key M) (m_srt M) (m_sd M) (m_go M) (m_seg M) (m_la M) (m_isN M) (m_drp M) (m_has M) (m_sees M) (m_isC M) (m_isG M) (m_ov M) (va_up (m_st M) (ix x) (1)) (m_vo M) (m_ko M) (m_sl M) (m_sc M) (m_kp M) (m_en M) (m_pg M))
def letGoM (M : MT) (x : Int32) : MT := if (x.toInt < 0 ∨ ((m_vn M : Nat) : Int) ≤ x.toInt) then M else if m_st M (ix x) = 0 then settleM (letGo1 M x) (ix x) else M
def letGoR (M : MT) (x : Int32) : Int32 := if (x.toInt < 0 ∨ ((m_vn M : Nat) : Int) ≤ x.toInt) then nI 0 else if m_st M (ix x) = 0 then zI (((countOf (settleM (letGo1 M x) (ix x)) 2 : Nat) : Int) - ((countOf M 2 : Nat) : Int)) else nI 0
theorem ok_letGo1 {M : MT} (hM : mOk M) (x : Int32) : mOk (letGo1 M x) := by
  obtain ⟨h1, h2, h3, h4, h5, h6, h7, h8, h9, h10⟩ := id hM
  exact ⟨h1, h2, h3, h4, h5, h6, h7, h8, up_lt h9 (by omega), h10⟩
def vT (M : MT) (x : Int32) : Nat := if (x.toInt < 0 ∨ ((m_vn M : Nat) : Int) ≤ x.toInt) then 1 else 0
def stateR (M : MT) (x : Int32) : Int32 := if (x.toInt < 0 ∨ ((m_vn M : Nat) : Int) ≤ x.toInt) then nI 0 else nI (m_st M (ix x))
def sizeR (M : MT) (x : Int32) : Int32 := if (x.toInt < 0 ∨ ((m_vn M : Nat) : Int) ≤ x.toInt) then nI 0 else nI (sizeOf M (ix x))
def groupsR (M : MT) (x : Int32) : Int32 := if (x.toInt < 0 ∨ ((m_vn M : Nat) : Int) ≤ x.toInt) then nI 0 else nI (groupCount M (ix x))
-- the first of the first n
def fstB (P : Nat → Bool) : Nat → Nat
  | 0 => 0
  | n + 1 => if fstB P n < n then fstB P n else if P n then n else n + 1
theorem fstB_le (P : Nat → Bool) (n : Nat) : fstB P n ≤ n := by
  induction n with
  | zero => exact Nat.le_refl _
  | succ n ih => simp only [fstB]; split <;> (try split) <;> omega
theorem fstB_is {P : Nat → Bool} {n : Nat} (h : fstB P n < n) : P (fstB P n) = true := by
  induction n with
  | zero => omega
  | succ n ih =>
    simp only [fstB] at h ⊢
    by_cases h1 : fstB P n < n
    · rw [if_pos h1] at h ⊢; exact ih h1
    · rw [if_neg h1] at h ⊢
      by_cases h2 : P n = true
      · rw [if_pos h2]; exact h2
      · rw [if_neg h2] at h; omega
theorem fstB_min {P : Nat → Bool} {n o : Nat} (h : o < fstB P n) : P o = false := by
  induction n with
  | zero => simp [fstB] at h
  | succ n ih =>
    simp only [fstB] at h
    by_cases h1 : fstB P n < n
    · rw [if_pos h1] at h; exact ih h
    · rw [if_neg h1] at h
      have h3 := fstB_le P n
      by_cases h2 : P n = true
      · rw [if_pos h2] at h; exact ih (by omega)
      · rw [if_neg h2] at h
        rcases Nat.lt_or_ge o n with q | q
        · exact ih (by omega)
        · have : o = n := by omega
          subst this
          simpa using h2
theorem fst_next {P : Nat → Bool} {n o : Nat} (h : o ≤ fstB P n) (ho : o < n) (hf : P o = false) : o + 1 ≤ fstB P n := by
  rcases Nat.lt_or_ge o (fstB P n) with q | q
  · exact q
  · have e : fstB P n = o := by omega
    have := fstB_is (P := P) (n := n) (by omega)
    rw [e, hf] at this
    exact absurd this (by decide)
theorem fst_here {P : Nat → Bool} {n o : Nat} (h : o ≤ fstB P n) (ht : P o = true) : fstB P n = o := by
  rcases Nat.lt_or_ge o (fstB P n) with q | q
  · have := fstB_min q
    rw [ht] at this
    exact absurd this (by decide)
  · omega
-- hit, place
def hitP (M : MT) (v kd : Nat) (sd : Int64) (k o : Nat) : Bool := m_in M v o && decide (rankM M v o kd sd = k)
def hitT (M : MT) (x y : Int32) (z : Int32) : Nat := if (x.toInt < 0 ∨ ((m_vn M : Nat) : Int) ≤ x.toInt) ∨ z.toInt < 0 ∨ ((sizeOf M (ix x) : Nat) : Int) ≤ z.toInt then 1 else if (y.toInt < 0 ∨ 3 ≤ y.toInt) then 2 else 0
def hitR (M : MT) (x y : Int32) (sd : Int64) (z : Int32) : Int32 := if (x.toInt < 0 ∨ ((m_vn M : Nat) : Int) ≤ x.toInt) ∨ z.toInt < 0 ∨ ((sizeOf M (ix x) : Nat) : Int) ≤ z.toInt then nI 0 else if (y.toInt < 0 ∨ 3 ≤ y.toInt) then nI 0 else nI (fstB (hitP M (ix x) (ix y) sd (ix z)) (m_n M))
def placeT (M : MT) (x y z : Int32) : Nat := if (x.toInt < 0 ∨ ((m_vn M : Nat) : Int) ≤ x.toInt) ∨ (z.toInt < 0 ∨ ((m_n M : Nat) : Int) ≤ z.toInt) then 1 else if (y.toInt < 0 ∨ 3 ≤ y.toInt) then 2 else 0
def placeR (M : MT) (x y : Int32) (sd : Int64) (z : Int32) : Int32 := if (x.toInt < 0 ∨ ((m_vn M : Nat) : Int) ≤ x.toInt) ∨ (z.toInt < 0 ∨ ((m_n M : Nat) : Int) ≤ z.toInt) then nI 0 else if (y.toInt < 0 ∨ 3 ≤ y.toInt) then nI 0 else if m_in M (ix x) (ix z) then nI (rankM M (ix x) (ix z) (ix y) sd) else zI (-1)
-- leader
def ldL (M : MT) (v kd : Nat) (sd : Int64) (lds : Nat → Bool) : Nat → Nat → Bool
  | 0 => lds
  | i + 1 => va_up (ldL M v kd sd lds i) i (isFirstB M v i kd sd)
theorem ldL_at {M : MT} {v kd : Nat} {sd : Int64} {lds : Nat → Bool} {n j : Nat} (h : j < n) : ldL M v kd sd lds n j = isFirstB M v j kd sd := by
  induction n with
  | zero => omega
  | succ n ih =>
    simp only [ldL]
    by_cases e : j = n
    · subst e; exact va_up_self _ _ _
    · rw [va_up_ne _ _ e]; exact ih (by omega)
def pLd (M : MT) (v kd : Nat) (sd : Int64) (o p : Nat) : Bool := isFirstB M v p kd sd && aheadB M kd sd p o
def gRank (M : MT) (v kd : Nat) (sd : Int64) (o : Nat) : Nat := cnt (pLd M v kd sd o) (m_n M)
def leadP (M : MT) (v kd : Nat) (sd : Int64) (k o : Nat) : Bool := isFirstB M v o kd sd && decide (gRank M v kd sd o = k)
def leaderM (M : MT) (v kd : Nat) (sd : Int64) (k : Nat) : Int := if fstB (leadP M v kd sd k) (m_n M) < m_n M then (fstB (leadP M v kd sd k) (m_n M) : Int) else -1
theorem leaderM_lt (M : MT) (v kd : Nat) (sd : Int64) (k : Nat) : -1 ≤ leaderM M v kd sd k ∧ leaderM M v kd sd k < (m_n M : Int) := by
  unfold leaderM; split <;> omega
theorem against_0 {M : MT} {x y z : Int32} (h : againstM M x y z = 0) : 0 ≤ x.toInt ∧ x.toInt < (m_vn M : Int) ∧ 0 ≤ z.toInt ∧ z.toInt < ((groupCount M (ix x) : Nat) : Int) ∧ 0 ≤ y.toInt ∧ y.toInt < 3 := by
  unfold againstM at h
  split at h
  · omega
  · split at h
    · omega
    · rename_i h1 h2
      have e : ix x = x.toInt.toNat := rfl
      rw [← e] at h1
      omega
theorem against_le (M : MT) (x y z : Int32) : againstM M x y z ≤ 2 := by unfold againstM; split <;> (try split) <;> omega
def groupR (M : MT) (x y : Int32) (sd : Int64) (z : Int32) : Int64 := if 0 < againstM M x y z then 0 else m_grp M (leaderM M (ix x) (ix y) sd (ix z)).toNat
def countedR (M : MT) (x y : Int32) (sd : Int64) (z : Int32) : Int32 := if 0 < againstM M x y z then nI 0 else nI (countIn M (ix x) (m_grp M (leaderM M (ix x) (ix y) sd (ix z)).toNat))
def bstI (M : MT) (v kd : Nat) (sd : Int64) (o0 : Int) : Nat → Int
  | 0 => o0
  | i + 1 => following M v kd sd (bstI M v kd sd o0 i) true (m_grp M (bstI M v kd sd o0 i).toNat) 0 0
def bestB (M : MT) (x y : Int32) (sd : Int64) (z w : Int32) : Prop := w.toInt < 0 ∨ ((countIn M (ix x) (m_grp M (leaderM M (ix x) (ix y) sd (ix z)).toNat) : Nat) : Int) ≤ w.toInt
def bestT (M : MT) (x y : Int32) (sd : Int64) (z w : Int32) : Nat := if 0 < againstM M x y z then againstM M x y z else if w.toInt < 0 ∨ ((countIn M (ix x) (m_grp M (leaderM M (ix x) (ix y) sd (ix z)).toNat) : Nat) : Int) ≤ w.toInt then 1 else 0
def bestR (M : MT) (x y : Int32) (sd : Int64) (z w : Int32) : Int32 := if 0 < againstM M x y z then nI 0 else if w.toInt < 0 ∨ ((countIn M (ix x) (m_grp M (leaderM M (ix x) (ix y) sd (ix z)).toNat) : Nat) : Int) ≤ w.toInt then nI 0 else zI (bstI M (ix x) (ix y) sd (leaderM M (ix x) (ix y) sd (ix z)) (ix w))
