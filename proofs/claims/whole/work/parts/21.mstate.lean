/-! the reference's state, and its cells -/
abbrev MT : Type := Nat × Nat × Nat × Nat × Nat × Nat × Nat × (Nat → Int64) × (Nat → Int64) × (Nat → Int64) × (Nat → Int64) × (Nat → Int64) × (Nat → Int) × (Nat → Int) × (Nat → Bool) × (Nat → Bool) × (Nat → Bool) × (Nat → Bool) × (Nat → Bool) × (Nat → Bool) × (Nat → Bool) × (Nat → Bool) × (Nat → Nat) × (Nat → Nat) × (Nat → Nat) × (Nat → Nat) × (Nat → Nat) × (Nat → Nat) × (Nat → Nat) × (Nat → Nat)
def m_th (M : MT) : Nat := M.1
def m_n (M : MT) : Nat := M.2.1
def m_sn (M : MT) : Nat := M.2.2.1
def m_vn (M : MT) : Nat := M.2.2.2.1
def m_rn (M : MT) : Nat := M.2.2.2.2.1
def m_pn (M : MT) : Nat := M.2.2.2.2.2.1
def m_nw (M : MT) : Nat := M.2.2.2.2.2.2.1
def m_grp (M : MT) : Nat → Int64 := M.2.2.2.2.2.2.2.1
def m_key (M : MT) : Nat → Int64 := M.2.2.2.2.2.2.2.2.1
def m_srt (M : MT) : Nat → Int64 := M.2.2.2.2.2.2.2.2.2.1
def m_sd (M : MT) : Nat → Int64 := M.2.2.2.2.2.2.2.2.2.2.1
def m_go (M : MT) : Nat → Int64 := M.2.2.2.2.2.2.2.2.2.2.2.1
def m_seg (M : MT) : Nat → Int := M.2.2.2.2.2.2.2.2.2.2.2.2.1
def m_la (M : MT) : Nat → Int := M.2.2.2.2.2.2.2.2.2.2.2.2.2.1
def m_isN (M : MT) : Nat → Bool := M.2.2.2.2.2.2.2.2.2.2.2.2.2.2.1
def m_drp (M : MT) : Nat → Bool := M.2.2.2.2.2.2.2.2.2.2.2.2.2.2.2.1
def m_has (M : MT) : Nat → Bool := M.2.2.2.2.2.2.2.2.2.2.2.2.2.2.2.2.1
def m_sees (M : MT) : Nat → Bool := M.2.2.2.2.2.2.2.2.2.2.2.2.2.2.2.2.2.1
def m_isC (M : MT) : Nat → Bool := M.2.2.2.2.2.2.2.2.2.2.2.2.2.2.2.2.2.2.1
def m_isG (M : MT) : Nat → Bool := M.2.2.2.2.2.2.2.2.2.2.2.2.2.2.2.2.2.2.2.1
def m_ov (M : MT) : Nat → Bool := M.2.2.2.2.2.2.2.2.2.2.2.2.2.2.2.2.2.2.2.2.1
def m_lds (M : MT) : Nat → Bool := M.2.2.2.2.2.2.2.2.2.2.2.2.2.2.2.2.2.2.2.2.2.1
def m_st (M : MT) : Nat → Nat := M.2.2.2.2.2.2.2.2.2.2.2.2.2.2.2.2.2.2.2.2.2.2.1
def m_vo (M : MT) : Nat → Nat := M.2.2.2.2.2.2.2.2.2.2.2.2.2.2.2.2.2.2.2.2.2.2.2.1
def m_ko (M : MT) : Nat → Nat := M.2.2.2.2.2.2.2.2.2.2.2.2.2.2.2.2.2.2.2.2.2.2.2.2.1
def m_sl (M : MT) : Nat → Nat := M.2.2.2.2.2.2.2.2.2.2.2.2.2.2.2.2.2.2.2.2.2.2.2.2.2.1
def m_sc (M : MT) : Nat → Nat := M.2.2.2.2.2.2.2.2.2.2.2.2.2.2.2.2.2.2.2.2.2.2.2.2.2.2.1
def m_kp (M : MT) : Nat → Nat := M.2.2.2.2.2.2.2.2.2.2.2.2.2.2.2.2.2.2.2.2.2.2.2.2.2.2.2.1
def m_en (M : MT) : Nat → Nat := M.2.2.2.2.2.2.2.2.2.2.2.2.2.2.2.2.2.2.2.2.2.2.2.2.2.2.2.2.1
def m_pg (M : MT) : Nat → Nat := M.2.2.2.2.2.2.2.2.2.2.2.2.2.2.2.2.2.2.2.2.2.2.2.2.2.2.2.2.2
def tyW (cI cJ cZ : ClassId) : List (ClassId × FieldType) := [(cI, .int), (cJ, .long), (cZ, .boolean)]
def mW (cI cJ cZ : ClassId) (a : Nat → Nat) (M : MT) : va_W := [(a 0, .inr (6, [.int (nI (m_th M)), .int (nI (m_n M)), .ref (a 1), .ref (a 2), .ref (a 3), .ref (a 4), .ref (a 5), .ref (a 6), .int (nI (m_sn M)), .int (nI (m_vn M)), .ref (a 7), .ref (a 8), .ref (a 9), .int (nI (m_rn M)), .ref (a 10), .ref (a 11), .ref (a 12), .ref (a 13), .ref (a 14), .ref (a 15), .ref (a 16), .ref (a 17), .ref (a 18), .ref (a 19), .ref (a 20), .ref (a 21), .int (nI (m_nw M)), .ref (a 22), .int (nI (m_pn M)), .ref (a 23)])), (a 1, .inl (cJ, 300, .inr (.inl (m_grp M)))), (a 2, .inl (cJ, 300, .inr (.inl (m_key M)))), (a 3, .inl (cJ, 300, .inr (.inl (m_srt M)))), (a 4, .inl (cI, 300, .inl (fun j => zI (m_seg M j)))), (a 5, .inl (cZ, 300, .inl (fun j => bI (m_isN M j)))), (a 6, .inl (cZ, 300, .inl (fun j => bI (m_drp M j)))), (a 7, .inl (cI, 30, .inl (fun j => nI (m_st M j)))), (a 8, .inl (cZ, 9000, .inl (fun j => bI (m_has M j)))), (a 9, .inl (cZ, 1200, .inl (fun j => bI (m_sees M j)))), (a 10, .inl (cI, 60, .inl (fun j => nI (m_vo M j)))), (a 11, .inl (cI, 60, .inl (fun j => nI (m_ko M j)))), (a 12, .inl (cJ, 60, .inr (.inl (m_sd M)))), (a 13, .inl (cZ, 60, .inl (fun j => bI (m_isC M j)))), (a 14, .inl (cI, 60, .inl (fun j => nI (m_sl M j)))), (a 15, .inl (cI, 60, .inl (fun j => nI (m_sc M j)))), (a 16, .inl (cI, 60, .inl (fun j => nI (m_kp M j)))), (a 17, .inl (cI, 60, .inl (fun j => nI (m_en M j)))), (a 18, .inl (cZ, 60, .inl (fun j => bI (m_isG M j)))), (a 19, .inl (cJ, 60, .inr (.inl (m_go M)))), (a 20, .inl (cZ, 60, .inl (fun j => bI (m_ov M j)))), (a 21, .inl (cI, 60, .inl (fun j => zI (m_la M j)))), (a 22, .inl (cI, 50, .inl (fun j => nI (m_pg M j)))), (a 23, .inl (cZ, 300, .inl (fun j => bI (m_lds M j))))]
/-- what always holds of the reference's numbers -/
def mOk (M : MT) : Prop := m_n M ≤ 300 ∧ m_sn M ≤ 40 ∧ m_vn M ≤ 30 ∧ m_rn M ≤ 60 ∧ m_pn M ≤ 50 ∧ m_nw M ≤ 1000000000 ∧ m_th M ≤ 3 ∧ (∀ j, -1 ≤ m_seg M j ∧ m_seg M j < 300) ∧ (∀ j, -1 ≤ m_la M j ∧ m_la M j < 300) ∧ (∀ j, m_st M j < 2000000000) ∧ (∀ j, m_vo M j < 2000000000) ∧ (∀ j, m_ko M j < 2000000000) ∧ (∀ j, m_sl M j < 2000000000) ∧ (∀ j, m_sc M j < 2000000000) ∧ (∀ j, m_kp M j < 2000000000) ∧ (∀ j, m_en M j < 2000000000) ∧ (∀ j, m_pg M j < 2000000000) ∧ (∀ j, m_vo M j < 30) ∧ (∀ j, m_ko M j < 3) ∧ (∀ j, m_sl M j < 9) ∧ (∀ j, m_sc M j < 8)
theorem zr {z : Int} (h : -1 ≤ z ∧ z < 300) : (zI z).toInt = z := zI_toInt (by omega) (by omega)
theorem nr {n : Nat} (h : n < 2000000000) : (nI n).toInt = (n : Int) := nI_z (by omega)
/-- how many of the first n have it -/
def cnt (P : Nat → Bool) : Nat → Nat
  | 0 => 0
  | n + 1 => cnt P n + (if P n then 1 else 0)
theorem cnt_le (P : Nat → Bool) (n : Nat) : cnt P n ≤ n := by
  induction n with
  | zero => exact Nat.le_refl 0
  | succ n ih => simp only [cnt]; split <;> omega
theorem cnt_t {P : Nat → Bool} {i k : Nat} (hk : k = cnt P i) (h : P i = true) : k + 1 = cnt P (i + 1) := by simp only [cnt, h, hk]; simp
theorem cnt_f {P : Nat → Bool} {i k : Nat} (hk : k = cnt P i) (h : P i = false) : k = cnt P (i + 1) := by simp only [cnt, h, hk]; simp
