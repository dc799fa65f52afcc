/-! what the reference's writes do -/
abbrev ix (x : Int32) : Nat := x.toInt.toNat
/-- whether a number is one of the first n -/
def okx (n : Nat) (x : Int32) : Bool := decide (0 ≤ x.toInt) && decide (x.toInt < (n : Int))
theorem okx_t {n : Nat} {x : Int32} (h : 0 ≤ x.toInt) (h2 : x.toInt < (n : Int)) : okx n x = true := by simp [okx, h, h2]
theorem okx_f {n : Nat} {x : Int32} (h : x.toInt < 0 ∨ (n : Int) ≤ x.toInt) : okx n x = false := by
  simp only [okx, Bool.and_eq_false_iff, decide_eq_false_iff_not]; omega
theorem okx_of {n : Nat} {x : Int32} (h : okx n x = true) : 0 ≤ x.toInt ∧ x.toInt < (n : Int) := by
  simpa [okx] using h
theorem ck_t {b : Bool} {α : Type} {x y : α} (h : b = true) : x = (if b then x else y) := by rw [h]; rfl
theorem ck_f {b : Bool} {α : Type} {x y : α} (h : b = false) : y = (if b then x else y) := by rw [h]; rfl
-- add
def addR (M : MT) : Int32 := if m_n M = 300 then zI (-4) else nI (m_n M)
def addM (M : MT) (g k s : Int64) : MT := if m_n M = 300 then M else (mkM (m_n M + 1) (m_sn M) (m_vn M) (m_rn M) (m_pn M) (m_nw M) (va_up (m_grp M) (m_n M) (g)) (va_up (m_key M) (m_n M) (k)) (va_up (m_srt M) (m_n M) (s)) (m_sd M) (m_go M) (va_up (m_seg M) (m_n M) (((-1) : Int))) (m_la M) (va_up (m_isN M) (m_n M) (true)) (m_drp M) (m_has M) (m_sees M) (m_isC M) (m_isG M) (m_ov M) (m_st M) (m_vo M) (m_ko M) (m_sl M) (m_sc M) (m_kp M) (m_en M) (m_pg M))
-- drop
def dropR (M : MT) (x : Int32) : Bool := okx (m_n M) x && !m_drp M (ix x)
def dropM (M : MT) (x : Int32) : MT := if okx (m_n M) x then (mkM (m_n M) (m_sn M) (m_vn M) (m_rn M) (m_pn M) (m_nw M) (m_grp M) (m_key M) (m_srt M) (m_sd M) (m_go M) (m_seg M) (m_la M) (m_isN M) (va_up (m_drp M) (x.toInt.toNat) (true)) (m_has M) (m_sees M) (m_isC M) (m_isG M) (m_ov M) (m_st M) (m_vo M) (m_ko M) (m_sl M) (m_sc M) (m_kp M) (m_en M) (m_pg M)) else M
-- commit
def cmN (M : MT) : Nat → Nat → Bool
  | 0 => m_isN M
  | i + 1 => if m_isN M i then va_up (cmN M i) i false else cmN M i
def cmS (M : MT) : Nat → Nat → Int
  | 0 => m_seg M
  | i + 1 => if m_isN M i then va_up (cmS M i) i (if m_drp M i then -1 else (m_sn M : Int)) else cmS M i
theorem cmN_at (M : MT) : ∀ (i j : Nat), i ≤ j → cmN M i j = m_isN M j := by
  intro i
  induction i with
  | zero => intro j _; rfl
  | succ i ih => intro j h; simp only [cmN]; split
                 · rw [va_up_ne _ _ (by omega)]; exact ih j (by omega)
                 · exact ih j (by omega)
def commitR (M : MT) : Int32 := if 0 < newOnes M ∧ m_sn M = 40 then zI (-4) else nI (newOnes M)
def commitM (M : MT) : MT := if 0 < newOnes M ∧ m_sn M = 40 then M else (mkM (m_n M) (m_sn M + (if 0 < newOnes M then 1 else 0)) (m_vn M) (m_rn M) (m_pn M) (m_nw M) (m_grp M) (m_key M) (m_srt M) (m_sd M) (m_go M) (cmS M (m_n M)) (m_la M) (cmN M (m_n M)) (m_drp M) (m_has M) (m_sees M) (m_isC M) (m_isG M) (m_ov M) (m_st M) (m_vo M) (m_ko M) (m_sl M) (m_sc M) (m_kp M) (m_en M) (m_pg M))
-- object, segment
def objR (M : MT) (x y : Int32) : Int64 := if okx (m_n M) x && okx 5 y then (if y.toInt = 0 then m_grp M (ix x) else if y.toInt = 1 then m_key M (ix x) else if y.toInt = 2 then m_srt M (ix x) else if y.toInt = 3 then (zI (m_seg M (ix x))).toInt64 else if m_drp M (ix x) then 1 else 0) else 0
def segR (M : MT) (x y : Int32) : Int32 := if okx (m_sn M) x && okx 3 y then (if y.toInt = 0 then nI (liveIn M (ix x)) else if y.toInt = 1 then nI (stateOf M (ix x)) else nI (seenBy M (ix x))) else nI 0
-- view
def pStand (M : MT) (o : Nat) : Bool := !m_isN M o && !m_drp M o && decide (0 ≤ m_seg M o)
def vwH (M : MT) : Nat → Nat → Bool
  | 0 => m_has M
  | i + 1 => if pStand M i then va_up (vwH M i) (300 * m_vn M + i) true else vwH M i
def vwS (M : MT) : Nat → Nat → Bool
  | 0 => m_sees M
  | i + 1 => if pStand M i then va_up (vwS M i) (40 * m_vn M + (m_seg M i).toNat) true else vwS M i
def viewR (M : MT) : Int32 := if m_vn M = 30 then zI (-4) else nI (m_vn M)
def viewM (M : MT) : MT := if m_vn M = 30 then M else (mkM (m_n M) (m_sn M) (m_vn M + 1) (m_rn M) (m_pn M) (m_nw M) (m_grp M) (m_key M) (m_srt M) (m_sd M) (m_go M) (m_seg M) (m_la M) (m_isN M) (m_drp M) (vwH M (m_n M)) (vwS M (m_n M)) (m_isC M) (m_isG M) (m_ov M) (m_st M) (m_vo M) (m_ko M) (m_sl M) (m_sc M) (m_kp M) (m_en M) (m_pg M))
-- settle
def anyB (P : Nat → Bool) : Nat → Bool
  | 0 => false
  | n + 1 => anyB P n || P n
def pHeld (M : MT) (v r : Nat) : Bool := decide (m_vo M r = v) && !m_ov M r
def heldB (M : MT) (v : Nat) : Bool := anyB (pHeld M v) (m_rn M)
def clrH (M : MT) (v : Nat) : Nat → Nat → Bool
  | 0 => m_has M
  | i + 1 => va_up (clrH M v i) (300 * v + i) false
def settleM (M : MT) (v : Nat) : MT := if m_st M v = 0 then M else if heldB M v then (mkM (m_n M) (m_sn M) (m_vn M) (m_rn M) (m_pn M) (m_nw M) (m_grp M) (m_key M) (m_srt M) (m_sd M) (m_go M) (m_seg M) (m_la M) (m_isN M) (m_drp M) (m_has M) (m_sees M) (m_isC M) (m_isG M) (m_ov M) (va_up (m_st M) (v) (1)) (m_vo M) (m_ko M) (m_sl M) (m_sc M) (m_kp M) (m_en M) (m_pg M)) else (mkM (m_n M) (m_sn M) (m_vn M) (m_rn M) (m_pn M) (m_nw M) (m_grp M) (m_key M) (m_srt M) (m_sd M) (m_go M) (m_seg M) (m_la M) (m_isN M) (m_drp M) (clrH M v 300) (m_sees M) (m_isC M) (m_isG M) (m_ov M) (va_up (m_st M) (v) (2)) (m_vo M) (m_ko M) (m_sl M) (m_sc M) (m_kp M) (m_en M) (m_pg M))
theorem up_lt {f : Nat → Nat} {k v b : Nat} (h : ∀ j, f j < b) (hv : v < b) : ∀ j, va_up f k v j < b := by
  intro j; unfold va_up; split <;> simp [*]
theorem up_in {f : Nat → Int} {k : Nat} {v b : Int} (h : ∀ j, -1 ≤ f j ∧ f j < b) (hv : -1 ≤ v ∧ v < b) : ∀ j, -1 ≤ va_up f k v j ∧ va_up f k v j < b := by
  intro j; unfold va_up; split
  · exact hv
  · exact h j
theorem ok_settle {M : MT} (hM : mOk M) (v : Nat) : mOk (settleM M v) := by
  obtain ⟨h1, h2, h3, h4, h5, h6, h7, h8, h9, h10⟩ := id hM
  unfold settleM
  split
  · exact hM
  · split
    · exact ⟨h1, h2, h3, h4, h5, h6, h7, h8, up_lt h9 (by omega), h10⟩
    · exact ⟨h1, h2, h3, h4, h5, h6, h7, h8, up_lt h9 (by omega), h10⟩
-- letGo, close
def letGoT (M : MT) (x : Int32) : Nat := if okx (m_vn M) x then (if m_st M (ix x) = 0 then 0 else 2) else 1
def letGoM (M : MT) (x : Int32) : MT := if okx (m_vn M) x && decide (m_st M (ix x) = 0) then settleM ((mkM (m_n M) (m_sn M) (m_vn M) (m_rn M) (m_pn M) (m_nw M) (m_grp M) (m_key M) (m_srt M) (m_sd M) (m_go M) (m_seg M) (m_la M) (m_isN M) (m_drp M) (m_has M) (m_sees M) (m_isC M) (m_isG M) (m_ov M) (va_up (m_st M) (x.toInt.toNat) (1)) (m_vo M) (m_ko M) (m_sl M) (m_sc M) (m_kp M) (m_en M) (m_pg M))) (ix x) else M
def letGoR (M : MT) (x : Int32) : Int32 := if okx (m_vn M) x && decide (m_st M (ix x) = 0) then zI ((countOf (letGoM M x) 2 : Int) - (countOf M 2 : Int)) else nI 0
def stateR (M : MT) (x : Int32) : Int32 := if okx (m_vn M) x then nI (m_st M (ix x)) else nI 0
def sizeR (M : MT) (x : Int32) : Int32 := if okx (m_vn M) x then nI (sizeOf M (ix x)) else nI 0
def groupsR (M : MT) (x : Int32) : Int32 := if okx (m_vn M) x then nI (groupCount M (ix x)) else nI 0
def vT (M : MT) (x : Int32) : Nat := if okx (m_vn M) x then 0 else 1
