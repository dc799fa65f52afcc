/-! what the reference's readers do -/
def pageT (M : MT) (x : Int32) : Nat := if (x.toInt < 0 ∨ ((m_pn M : Nat) : Int) ≤ x.toInt) then 1 else 0
def pageR (M : MT) (x : Int32) : Int32 := if (x.toInt < 0 ∨ ((m_pn M : Nat) : Int) ≤ x.toInt) then nI 0 else nI (m_pg M (ix x))
def addRd (M : MT) (v kd : Nat) (sd : Int64) (b : Bool) : MT := (mkM (m_n M) (m_sn M) (m_vn M) (m_rn M + 1) (m_pn M) (m_nw M) (m_grp M) (m_key M) (m_srt M) (va_up (m_sd M) (m_rn M) (sd)) (m_go M) (m_seg M) (va_up (m_la M) (m_rn M) (((-1) : Int))) (m_isN M) (m_drp M) (m_has M) (m_sees M) (va_up (m_isC M) (m_rn M) (b)) (m_isG M) (m_ov M) (m_st M) (va_up (m_vo M) (m_rn M) (v)) (va_up (m_ko M) (m_rn M) (kd)) (m_sl M) (m_sc M) (m_kp M) (m_en M) (m_pg M))
def curT (M : MT) (x y : Int32) (sd : Int64) (sl sc kp : Int32) : Nat := if (x.toInt < 0 ∨ ((m_vn M : Nat) : Int) ≤ x.toInt) then 1 else if (y.toInt < 0 ∨ 3 ≤ y.toInt) ∨ sl.toInt < 1 ∨ 8 < sl.toInt ∨ sc.toInt < 0 ∨ sl.toInt ≤ sc.toInt ∨ kp.toInt < 1 ∨ 1000 < kp.toInt then 2 else if m_st M (ix x) = 0 then 0 else 3
def curR (M : MT) (x y : Int32) (sd : Int64) (sl sc kp : Int32) : Int32 := if (x.toInt < 0 ∨ ((m_vn M : Nat) : Int) ≤ x.toInt) then nI 0 else if (y.toInt < 0 ∨ 3 ≤ y.toInt) ∨ sl.toInt < 1 ∨ 8 < sl.toInt ∨ sc.toInt < 0 ∨ sl.toInt ≤ sc.toInt ∨ kp.toInt < 1 ∨ 1000 < kp.toInt then nI 0 else if m_st M (ix x) = 0 then (if m_rn M = 60 then zI (-4) else nI (m_rn M)) else nI 0
def curM (M : MT) (x y : Int32) (sd : Int64) (sl sc kp : Int32) : MT := if (x.toInt < 0 ∨ ((m_vn M : Nat) : Int) ≤ x.toInt) then M else if (y.toInt < 0 ∨ 3 ≤ y.toInt) ∨ sl.toInt < 1 ∨ 8 < sl.toInt ∨ sc.toInt < 0 ∨ sl.toInt ≤ sc.toInt ∨ kp.toInt < 1 ∨ 1000 < kp.toInt then M else if m_st M (ix x) = 0 then (if m_rn M = 60 then M else (mkM (m_n M) (m_sn M) (m_vn M) (m_rn M + 1) (m_pn M) (m_nw M) (m_grp M) (m_key M) (m_srt M) (va_up (m_sd M) (m_rn M) (sd)) (m_go M) (m_seg M) (va_up (m_la M) (m_rn M) (((-1) : Int))) (m_isN M) (m_drp M) (m_has M) (m_sees M) (va_up (m_isC M) (m_rn M) (true)) (m_isG M) (m_ov M) (m_st M) (va_up (m_vo M) (m_rn M) (ix x)) (va_up (m_ko M) (m_rn M) (ix y)) (va_up (m_sl M) (m_rn M) (ix sl)) (va_up (m_sc M) (m_rn M) (ix sc)) (va_up (m_kp M) (m_rn M) (ix kp)) (va_up (m_en M) (m_rn M) (m_nw M + ix kp)) (m_pg M))) else M
theorem cur_add {n : Nat} {x : Int32} (h : 0 ≤ x.toInt) : zI (((n : Nat) : Int) + x.toInt) = nI (n + ix x) := by rw [← ix_c x h, ← zI_n]; congr 1
def it1 (M : MT) (x y : Int32) (sd : Int64) (b : Bool) : MT := (mkM (m_n M) (m_sn M) (m_vn M) (m_rn M + 1) (m_pn M) (m_nw M) (m_grp M) (m_key M) (m_srt M) (va_up (m_sd M) (m_rn M) (sd)) (m_go M) (m_seg M) (va_up (m_la M) (m_rn M) (((-1) : Int))) (m_isN M) (m_drp M) (m_has M) (m_sees M) (va_up (m_isC M) (m_rn M) (false)) (va_up (m_isG M) (m_rn M) (b)) (m_ov M) (m_st M) (va_up (m_vo M) (m_rn M) (ix x)) (va_up (m_ko M) (m_rn M) (ix y)) (m_sl M) (m_sc M) (m_kp M) (m_en M) (m_pg M))
def it2 (M : MT) (x y : Int32) (sd : Int64) (b : Bool) (g : Int64) : MT := (mkM (m_n M) (m_sn M) (m_vn M) (m_rn M + 1) (m_pn M) (m_nw M) (m_grp M) (m_key M) (m_srt M) (va_up (m_sd M) (m_rn M) (sd)) (va_up (m_go M) (m_rn M) (g)) (m_seg M) (va_up (m_la M) (m_rn M) (((-1) : Int))) (m_isN M) (m_drp M) (m_has M) (m_sees M) (va_up (m_isC M) (m_rn M) (false)) (va_up (m_isG M) (m_rn M) (b)) (m_ov M) (m_st M) (va_up (m_vo M) (m_rn M) (ix x)) (va_up (m_ko M) (m_rn M) (ix y)) (m_sl M) (m_sc M) (m_kp M) (m_en M) (m_pg M))
def it3 (M : MT) (x y : Int32) (sd : Int64) (b : Bool) (g : Int64) (f : Bool) : MT := (mkM (m_n M) (m_sn M) (m_vn M) (m_rn M + 1) (m_pn M) (m_nw M) (m_grp M) (m_key M) (m_srt M) (va_up (m_sd M) (m_rn M) (sd)) (va_up (m_go M) (m_rn M) (g)) (m_seg M) (va_up (m_la M) (m_rn M) (((-1) : Int))) (m_isN M) (m_drp M) (m_has M) (m_sees M) (va_up (m_isC M) (m_rn M) (false)) (va_up (m_isG M) (m_rn M) (b)) (va_up (m_ov M) (m_rn M) (f)) (m_st M) (va_up (m_vo M) (m_rn M) (ix x)) (va_up (m_ko M) (m_rn M) (ix y)) (m_sl M) (m_sc M) (m_kp M) (m_en M) (m_pg M))
def itT (M : MT) (x y : Int32) (sd : Int64) (z : Int32) : Nat := if (x.toInt < 0 ∨ ((m_vn M : Nat) : Int) ≤ x.toInt) ∨ z.toInt < -1 ∨ ((groupCount M (ix x) : Nat) : Int) ≤ z.toInt then 1 else if (y.toInt < 0 ∨ 3 ≤ y.toInt) then 2 else if m_st M (ix x) = 0 then 0 else 3
def itR (M : MT) (x y : Int32) (sd : Int64) (z : Int32) : Int32 := if (x.toInt < 0 ∨ ((m_vn M : Nat) : Int) ≤ x.toInt) ∨ z.toInt < -1 ∨ ((groupCount M (ix x) : Nat) : Int) ≤ z.toInt then nI 0 else if (y.toInt < 0 ∨ 3 ≤ y.toInt) then nI 0 else if m_st M (ix x) = 0 then (if m_rn M = 60 then zI (-4) else nI (m_rn M)) else nI 0
def itG (M : MT) (x y : Int32) (sd : Int64) (z : Int32) : Int64 := if 0 ≤ z.toInt then m_grp M (leaderM (it1 M x y sd true) (ix x) (ix y) sd (ix z)).toNat else 0
def itB (z : Int32) : Bool := decide (0 ≤ z.toInt)
def itM (M : MT) (x y : Int32) (sd : Int64) (z : Int32) : MT := if (x.toInt < 0 ∨ ((m_vn M : Nat) : Int) ≤ x.toInt) ∨ z.toInt < -1 ∨ ((groupCount M (ix x) : Nat) : Int) ≤ z.toInt then M else if (y.toInt < 0 ∨ 3 ≤ y.toInt) then M else if m_st M (ix x) = 0 then (if m_rn M = 60 then M else it3 M x y sd (itB z) (itG M x y sd z) (decide (nextOf (it2 M x y sd (itB z) (itG M x y sd z)) (m_rn M) < 0))) else M
theorem ok_it1 {M : MT} (hM : mOk M) {x y : Int32} (sd : Int64) (b : Bool) (hr : m_rn M < 60) (hv : ix x < 30) (hk : ix y < 3) : mOk (it1 M x y sd b) := by
  obtain ⟨h1, h2, h3, h4, h5, h6, h7, h8, h9, h10, h11, h12, h13, h14, h15, h16, h17, h18, h19, h20⟩ := id hM
  exact ⟨h1, h2, h3, show m_rn M + 1 ≤ 60 by omega, h5, h6, h7, up_in h8 (by omega), h9, up_lt h10 (by omega), up_lt h11 (by omega), h12, h13, h14, h15, h16, up_lt h17 hv, up_lt h18 hk, h19, h20⟩
theorem ok_it2 {M : MT} (hM : mOk M) {x y : Int32} (sd : Int64) (b : Bool) (g : Int64) (hr : m_rn M < 60) (hv : ix x < 30) (hk : ix y < 3) : mOk (it2 M x y sd b g) := by
  obtain ⟨h1, h2, h3, h4, h5, h6, h7, h8, h9, h10, h11, h12, h13, h14, h15, h16, h17, h18, h19, h20⟩ := id hM
  exact ⟨h1, h2, h3, show m_rn M + 1 ≤ 60 by omega, h5, h6, h7, up_in h8 (by omega), h9, up_lt h10 (by omega), up_lt h11 (by omega), h12, h13, h14, h15, h16, up_lt h17 hv, up_lt h18 hk, h19, h20⟩
def tkS (M : MT) (r : Nat) : Nat → MT
  | 0 => (mkM (m_n M) (m_sn M) (m_vn M) (m_rn M) (0) (m_nw M) (m_grp M) (m_key M) (m_srt M) (m_sd M) (m_go M) (m_seg M) (m_la M) (m_isN M) (m_drp M) (m_has M) (m_sees M) (m_isC M) (m_isG M) (m_ov M) (m_st M) (m_vo M) (m_ko M) (m_sl M) (m_sc M) (m_kp M) (m_en M) (m_pg M))
  | j + 1 => (mkM (m_n (tkS M r j)) (m_sn (tkS M r j)) (m_vn (tkS M r j)) (m_rn (tkS M r j)) (j + 1) (m_nw (tkS M r j)) (m_grp (tkS M r j)) (m_key (tkS M r j)) (m_srt (tkS M r j)) (m_sd (tkS M r j)) (m_go (tkS M r j)) (m_seg (tkS M r j)) (va_up (m_la (tkS M r j)) (r) (nextOf (tkS M r j) r)) (m_isN (tkS M r j)) (m_drp (tkS M r j)) (m_has (tkS M r j)) (m_sees (tkS M r j)) (m_isC (tkS M r j)) (m_isG (tkS M r j)) (m_ov (tkS M r j)) (m_st (tkS M r j)) (m_vo (tkS M r j)) (m_ko (tkS M r j)) (m_sl (tkS M r j)) (m_sc (tkS M r j)) (m_kp (tkS M r j)) (m_en (tkS M r j)) (va_up (m_pg (tkS M r j)) (j) ((nextOf (tkS M r j) r).toNat)))
theorem tkS_pn (M : MT) (r j : Nat) : m_pn (tkS M r j) = j := by cases j <;> rfl
theorem tkS_nw (M : MT) (r j : Nat) : m_nw (tkS M r j) = m_nw M ∧ m_kp (tkS M r j) = m_kp M ∧ m_n (tkS M r j) = m_n M := by
  induction j with
  | zero => exact ⟨rfl, rfl, rfl⟩
  | succ j ih => exact ih
theorem ok_tkS {M : MT} (hM : mOk M) (r : Nat) : ∀ j, j ≤ 50 → mOk (tkS M r j) := by
  intro j
  induction j with
  | zero =>
    intro _
    obtain ⟨h1, h2, h3, h4, h5, h6⟩ := id hM
    exact ⟨h1, h2, h3, h4, Nat.zero_le _, h6⟩
  | succ j ih =>
    intro hj
    have hX := ih (by omega)
    have hf : -1 ≤ nextOf (tkS M r j) r ∧ nextOf (tkS M r j) r < (m_n (tkS M r j) : Int) := following_in _ _ _ _ _ _ _ _ _
    have hn : m_n (tkS M r j) ≤ 300 := hX.1
    obtain ⟨h1, h2, h3, h4, h5, h6, h7, h8, h9, h10, h11, h12, h13, h14, h15, h16, h17⟩ := id hX
    exact ⟨h1, h2, h3, h4, show j + 1 ≤ 50 by omega, h6, h7, up_in h8 (by omega), h9, h10, h11, h12, h13, h14, h15, up_lt h16 (by omega), h17⟩
def tkP (M : MT) (r j : Nat) : Bool := decide (nextOf (tkS M r j) r < 0)
def tkN (M : MT) (r n : Nat) : Nat := fstB (tkP M r) n
def takeT (M : MT) (x w : Int32) : Nat := if (x.toInt < 0 ∨ ((m_rn M : Nat) : Int) ≤ x.toInt) then 1 else if w.toInt < 1 ∨ 50 < w.toInt then 2 else if m_isC M (ix x) = false then 2 else 0
def takeR (M : MT) (x w : Int32) : Int32 := if (x.toInt < 0 ∨ ((m_rn M : Nat) : Int) ≤ x.toInt) then nI 0 else if w.toInt < 1 ∨ 50 < w.toInt then nI 0 else if m_isC M (ix x) = false then nI 0 else if m_ov M (ix x) then zI (-1) else nI (tkN M (ix x) (ix w))
def takeM (M : MT) (x w : Int32) : MT := if (x.toInt < 0 ∨ ((m_rn M : Nat) : Int) ≤ x.toInt) then M else if w.toInt < 1 ∨ 50 < w.toInt then M else if m_isC M (ix x) = false then M else if m_ov M (ix x) then M else (mkM (m_n (tkS M (ix x) (tkN M (ix x) (ix w)))) (m_sn (tkS M (ix x) (tkN M (ix x) (ix w)))) (m_vn (tkS M (ix x) (tkN M (ix x) (ix w)))) (m_rn (tkS M (ix x) (tkN M (ix x) (ix w)))) (m_pn (tkS M (ix x) (tkN M (ix x) (ix w)))) (m_nw (tkS M (ix x) (tkN M (ix x) (ix w)))) (m_grp (tkS M (ix x) (tkN M (ix x) (ix w)))) (m_key (tkS M (ix x) (tkN M (ix x) (ix w)))) (m_srt (tkS M (ix x) (tkN M (ix x) (ix w)))) (m_sd (tkS M (ix x) (tkN M (ix x) (ix w)))) (m_go (tkS M (ix x) (tkN M (ix x) (ix w)))) (m_seg (tkS M (ix x) (tkN M (ix x) (ix w)))) (m_la (tkS M (ix x) (tkN M (ix x) (ix w)))) (m_isN (tkS M (ix x) (tkN M (ix x) (ix w)))) (m_drp (tkS M (ix x) (tkN M (ix x) (ix w)))) (m_has (tkS M (ix x) (tkN M (ix x) (ix w)))) (m_sees (tkS M (ix x) (tkN M (ix x) (ix w)))) (m_isC (tkS M (ix x) (tkN M (ix x) (ix w)))) (m_isG (tkS M (ix x) (tkN M (ix x) (ix w)))) (m_ov (tkS M (ix x) (tkN M (ix x) (ix w)))) (m_st (tkS M (ix x) (tkN M (ix x) (ix w)))) (m_vo (tkS M (ix x) (tkN M (ix x) (ix w)))) (m_ko (tkS M (ix x) (tkN M (ix x) (ix w)))) (m_sl (tkS M (ix x) (tkN M (ix x) (ix w)))) (m_sc (tkS M (ix x) (tkN M (ix x) (ix w)))) (m_kp (tkS M (ix x) (tkN M (ix x) (ix w)))) (va_up (m_en (tkS M (ix x) (tkN M (ix x) (ix w)))) (ix x) (m_nw (tkS M (ix x) (tkN M (ix x) (ix w))) + m_kp (tkS M (ix x) (tkN M (ix x) (ix w))) (ix x))) (m_pg (tkS M (ix x) (tkN M (ix x) (ix w)))))
def nx1 (M : MT) (r : Nat) : MT := (mkM (m_n M) (m_sn M) (m_vn M) (m_rn M) (m_pn M) (m_nw M) (m_grp M) (m_key M) (m_srt M) (m_sd M) (m_go M) (m_seg M) (va_up (m_la M) (r) (nextOf M r)) (m_isN M) (m_drp M) (m_has M) (m_sees M) (m_isC M) (m_isG M) (m_ov M) (m_st M) (m_vo M) (m_ko M) (m_sl M) (m_sc M) (m_kp M) (m_en M) (m_pg M))
def nx2 (M : MT) (r : Nat) : MT := (mkM (m_n M) (m_sn M) (m_vn M) (m_rn M) (m_pn M) (m_nw M) (m_grp M) (m_key M) (m_srt M) (m_sd M) (m_go M) (m_seg M) (va_up (m_la M) (r) (nextOf M r)) (m_isN M) (m_drp M) (m_has M) (m_sees M) (m_isC M) (m_isG M) (va_up (m_ov M) (r) (true)) (m_st M) (m_vo M) (m_ko M) (m_sl M) (m_sc M) (m_kp M) (m_en M) (m_pg M))
theorem ok_nx1 {M : MT} (hM : mOk M) (r : Nat) : mOk (nx1 M r) := by
  have hf : -1 ≤ nextOf M r ∧ nextOf M r < (m_n M : Int) := following_in _ _ _ _ _ _ _ _ _
  have hn : m_n M ≤ 300 := hM.1
  obtain ⟨h1, h2, h3, h4, h5, h6, h7, h8, h9⟩ := id hM
  exact ⟨h1, h2, h3, h4, h5, h6, h7, up_in h8 (by omega), h9⟩
theorem ok_nx2 {M : MT} (hM : mOk M) (r : Nat) : mOk (nx2 M r) := by
  have hf : -1 ≤ nextOf M r ∧ nextOf M r < (m_n M : Int) := following_in _ _ _ _ _ _ _ _ _
  have hn : m_n M ≤ 300 := hM.1
  obtain ⟨h1, h2, h3, h4, h5, h6, h7, h8, h9⟩ := id hM
  exact ⟨h1, h2, h3, h4, h5, h6, h7, up_in h8 (by omega), h9⟩
def nxT (M : MT) (x : Int32) : Nat := if (x.toInt < 0 ∨ ((m_rn M : Nat) : Int) ≤ x.toInt) then 1 else if m_isC M (ix x) then 2 else if m_ov M (ix x) then 3 else 0
def nxR (M : MT) (x : Int32) : Int32 := if (x.toInt < 0 ∨ ((m_rn M : Nat) : Int) ≤ x.toInt) then nI 0 else if m_isC M (ix x) then nI 0 else if m_ov M (ix x) then nI 0 else zI (nextOf M (ix x))
def nxM (M : MT) (x : Int32) : MT := if (x.toInt < 0 ∨ ((m_rn M : Nat) : Int) ≤ x.toInt) then M else if m_isC M (ix x) then M else if m_ov M (ix x) then M else if nextOf (nx1 M (ix x)) (ix x) < 0 then settleM (nx2 M (ix x)) (m_vo M (ix x)) else nx1 M (ix x)
def lfS (M : MT) (r : Nat) : Nat → MT
  | 0 => M
  | j + 1 => (mkM (m_n (lfS M r j)) (m_sn (lfS M r j)) (m_vn (lfS M r j)) (m_rn (lfS M r j)) (m_pn (lfS M r j)) (m_nw (lfS M r j)) (m_grp (lfS M r j)) (m_key (lfS M r j)) (m_srt (lfS M r j)) (m_sd (lfS M r j)) (m_go (lfS M r j)) (m_seg (lfS M r j)) (va_up (m_la (lfS M r j)) (r) (nextOf (lfS M r j) r)) (m_isN (lfS M r j)) (m_drp (lfS M r j)) (m_has (lfS M r j)) (m_sees (lfS M r j)) (m_isC (lfS M r j)) (m_isG (lfS M r j)) (m_ov (lfS M r j)) (m_st (lfS M r j)) (m_vo (lfS M r j)) (m_ko (lfS M r j)) (m_sl (lfS M r j)) (m_sc (lfS M r j)) (m_kp (lfS M r j)) (m_en (lfS M r j)) (m_pg (lfS M r j)))
def setLa (M : MT) (f : Nat → Int) : MT := (mkM (m_n M) (m_sn M) (m_vn M) (m_rn M) (m_pn M) (m_nw M) (m_grp M) (m_key M) (m_srt M) (m_sd M) (m_go M) (m_seg M) (f) (m_isN M) (m_drp M) (m_has M) (m_sees M) (m_isC M) (m_isG M) (m_ov M) (m_st M) (m_vo M) (m_ko M) (m_sl M) (m_sc M) (m_kp M) (m_en M) (m_pg M))
theorem setLa_self (M : MT) : setLa M (m_la M) = M := rfl
theorem va_up_up {α : Type} (f : Nat → α) (k : Nat) (v w : α) : va_up (va_up f k v) k w = va_up f k w := bx_uu f k v w
theorem va_up_same {α : Type} (f : Nat → α) (k : Nat) : va_up f k (f k) = f := by funext j; unfold va_up; split <;> simp [*]
theorem lfS_form (M : MT) (r j : Nat) : ∃ w : Int, lfS M r j = setLa M (va_up (m_la M) r w) := by
  induction j with
  | zero => exact ⟨m_la M r, by rw [va_up_same]; exact (setLa_self M).symm⟩
  | succ j ih =>
    obtain ⟨w, hw⟩ := ih
    refine ⟨nextOf (lfS M r j) r, ?_⟩
    show setLa (lfS M r j) (va_up (m_la (lfS M r j)) r (nextOf (lfS M r j) r)) = _
    generalize nextOf (lfS M r j) r = q
    rw [hw]
    show setLa M (va_up (va_up (m_la M) r w) r q) = _
    rw [va_up_up]
theorem lfS_back (M : MT) (r j : Nat) : setLa (lfS M r j) (va_up (m_la (lfS M r j)) r (m_la M r)) = M := by
  obtain ⟨w, hw⟩ := lfS_form M r j
  rw [hw]
  show setLa M (va_up (va_up (m_la M) r w) r (m_la M r)) = M
  rw [va_up_up, va_up_same, setLa_self]
theorem ok_lfS {M : MT} (hM : mOk M) (r : Nat) : ∀ j, mOk (lfS M r j) := by
  intro j
  induction j with
  | zero => exact hM
  | succ j ih =>
    have hf : -1 ≤ nextOf (lfS M r j) r ∧ nextOf (lfS M r j) r < (m_n (lfS M r j) : Int) := following_in _ _ _ _ _ _ _ _ _
    have hn : m_n (lfS M r j) ≤ 300 := ih.1
    obtain ⟨h1, h2, h3, h4, h5, h6, h7, h8, h9⟩ := id ih
    exact ⟨h1, h2, h3, h4, h5, h6, h7, up_in h8 (by omega), h9⟩
/-- how many a reader has yet to give -/
def leftK (M : MT) (r K : Nat) : Prop := K < 2000 ∧ (∀ i, i < K → 0 ≤ nextOf (lfS M r i) r) ∧ nextOf (lfS M r K) r < 0
def lfT (M : MT) (x : Int32) : Nat := if (x.toInt < 0 ∨ ((m_rn M : Nat) : Int) ≤ x.toInt) then 1 else 0
def lfR (M : MT) (x : Int32) (K : Nat) : Int32 := if (x.toInt < 0 ∨ ((m_rn M : Nat) : Int) ≤ x.toInt) then nI 0 else if m_ov M (ix x) then zI (-1) else nI K
def cl1 (M : MT) (r : Nat) : MT := (mkM (m_n M) (m_sn M) (m_vn M) (m_rn M) (m_pn M) (m_nw M) (m_grp M) (m_key M) (m_srt M) (m_sd M) (m_go M) (m_seg M) (m_la M) (m_isN M) (m_drp M) (m_has M) (m_sees M) (m_isC M) (m_isG M) (va_up (m_ov M) (r) (true)) (m_st M) (m_vo M) (m_ko M) (m_sl M) (m_sc M) (m_kp M) (m_en M) (m_pg M))
theorem ok_cl1 {M : MT} (hM : mOk M) (r : Nat) : mOk (cl1 M r) := hM
def clM (M : MT) (x : Int32) : MT := if (x.toInt < 0 ∨ ((m_rn M : Nat) : Int) ≤ x.toInt) then M else if m_ov M (ix x) then M else settleM (cl1 M (ix x)) (m_vo M (ix x))
def clR (M : MT) (x : Int32) : Int32 := if (x.toInt < 0 ∨ ((m_rn M : Nat) : Int) ≤ x.toInt) then nI 0 else if m_ov M (ix x) then nI 0 else zI (((countOf (settleM (cl1 M (ix x)) (m_vo M (ix x))) 2 : Nat) : Int) - ((countOf M 2 : Nat) : Int))
def tk0 (M : MT) (x : Int32) : MT := (mkM (m_n M) (m_sn M) (m_vn M) (m_rn M) (m_pn M) (m_nw M + ix x) (m_grp M) (m_key M) (m_srt M) (m_sd M) (m_go M) (m_seg M) (m_la M) (m_isN M) (m_drp M) (m_has M) (m_sees M) (m_isC M) (m_isG M) (m_ov M) (m_st M) (m_vo M) (m_ko M) (m_sl M) (m_sc M) (m_kp M) (m_en M) (m_pg M))
def tickP (X : MT) (j : Nat) : Bool := m_isC X j && !m_ov X j && decide (m_en X j < m_nw X)
def tickS (M : MT) : Nat → MT
  | 0 => M
  | j + 1 => if tickP (tickS M j) j then settleM (cl1 (tickS M j) j) (m_vo (tickS M j) j) else tickS M j
def tickC (M : MT) : Nat → Nat
  | 0 => 0
  | j + 1 => tickC M j + (if tickP (tickS M j) j then 1 else 0)
theorem tickC_le (M : MT) (j : Nat) : tickC M j ≤ j := by
  induction j with
  | zero => exact Nat.le_refl _
  | succ j ih => simp only [tickC]; split <;> omega
theorem settle_rn (M : MT) (v : Nat) : m_rn (settleM M v) = m_rn M := by unfold settleM; split <;> (try split) <;> rfl
theorem tickS_rn (M : MT) (j : Nat) : m_rn (tickS M j) = m_rn M := by
  induction j with
  | zero => rfl
  | succ j ih => simp only [tickS]; split
                 · rw [settle_rn]; exact ih
                 · exact ih
theorem ok_tickS {M : MT} (hM : mOk M) (j : Nat) : mOk (tickS M j) := by
  induction j with
  | zero => exact hM
  | succ j ih => simp only [tickS]; split
                 · exact ok_settle (ok_cl1 ih j) _
                 · exact ih
theorem ok_tk0 {M : MT} (hM : mOk M) {x : Int32} (h : m_nw M + ix x ≤ 1000000000) : mOk (tk0 M x) := by
  obtain ⟨h1, h2, h3, h4, h5, h6, h7⟩ := id hM
  exact ⟨h1, h2, h3, h4, h5, h, h7⟩
def tickT (M : MT) (x : Int32) : Nat := if x.toInt < 0 ∨ 10000 < x.toInt ∨ 1000000000 < ((m_nw M : Nat) : Int) + x.toInt then 1 else 0
def tickR (M : MT) (x : Int32) : Int32 := if x.toInt < 0 ∨ 10000 < x.toInt ∨ 1000000000 < ((m_nw M : Nat) : Int) + x.toInt then nI 0 else nI (tickC (tk0 M x) (m_rn M))
def tickM (M : MT) (x : Int32) : MT := if x.toInt < 0 ∨ 10000 < x.toInt ∨ 1000000000 < ((m_nw M : Nat) : Int) + x.toInt then M else tickS (tk0 M x) (m_rn M)
def pGo (M : MT) (v : Nat) : Bool := !decide (m_st M v = 2)
def pRun (M : MT) (r : Nat) : Bool := !m_ov M r
theorem told_sub {x : Int32} (h : 3 ≤ x.toInt) : zI (x.toInt - ((3 : Nat) : Int)) = nI (ix x - 3) := by
  have := ix_c x (by omega)
  rw [← zI_n]
  congr 1
  omega
def toldT (x : Int32) : Nat := if x.toInt < 0 ∨ 11 < x.toInt then 1 else 0
def toldR (M : MT) (x : Int32) : Int32 := if x.toInt < 0 ∨ 11 < x.toInt then nI 0 else if x.toInt = 7 then nI (cnt (pGo M) (m_vn M)) else if x.toInt = 9 then nI (cnt (pRun M) (m_rn M)) else if x.toInt = 0 then nI (m_n M) else if x.toInt = 1 then nI (newOnes M) else if x.toInt = 2 then nI (m_sn M) else if x.toInt < 6 then nI (countOf M (ix x - 3)) else if x.toInt = 6 then nI (m_vn M) else if x.toInt = 8 then nI (m_rn M) else if x.toInt = 10 then nI (m_nw M) else nI (m_pn M)
theorem told_end {M : MT} {x : Int32} {i k i2 k2 : Nat} (h0 : 0 ≤ x.toInt) (h79 : x.toInt = 7 ∨ x.toInt = 9) (hz : x.toInt ≠ 7 → i = 0) (hz2 : x.toInt ≠ 9 → i2 = 0) (hk : k = cnt (pGo M) i) (hk2 : k2 = k + cnt (pRun M) i2) (h7 : x.toInt = 7 → i = m_vn M) (h9 : x.toInt = 9 → i2 = m_rn M) : nI k2 = (if x.toInt = 7 then nI (cnt (pGo M) (m_vn M)) else if x.toInt = 9 then nI (cnt (pRun M) (m_rn M)) else if x.toInt = 0 then nI (m_n M) else if x.toInt = 1 then nI (newOnes M) else if x.toInt = 2 then nI (m_sn M) else if x.toInt < 6 then nI (countOf M (ix x - 3)) else if x.toInt = 6 then nI (m_vn M) else if x.toInt = 8 then nI (m_rn M) else if x.toInt = 10 then nI (m_nw M) else nI (m_pn M)) := by
  rcases h79 with e | e
  · rw [if_pos e, hk2, hk, hz2 (by omega), h7 e]; rfl
  · rw [if_neg (by omega), if_pos e, hk2, hk, hz (by omega), h9 e]; simp [cnt]
def pBel (M : MT) (x : Int32) (q : Nat) : Bool := decide (0 < liveIn M q) && decide (((liveIn M q : Nat) : Int) < x.toInt)
def sumB (P : Nat → Bool) (f : Nat → Nat) : Nat → Nat
  | 0 => 0
  | n + 1 => sumB P f n + (if P n then f n else 0)
theorem sum_t {P : Nat → Bool} {f : Nat → Nat} {i k : Nat} (hk : k = sumB P f i) (h : P i = true) : k + f i = sumB P f (i + 1) := by simp only [sumB, h, hk]; simp
theorem sum_f {P : Nat → Bool} {f : Nat → Nat} {i k : Nat} (hk : k = sumB P f i) (h : P i = false) : k = sumB P f (i + 1) := by simp only [sumB, h, hk]; simp
theorem sumB_le {P : Nat → Bool} {f : Nat → Nat} {b : Nat} (h : ∀ j, f j ≤ b) (n : Nat) : sumB P f n ≤ n * b := by
  induction n with
  | zero => simp [sumB]
  | succ n ih => simp only [sumB, Nat.succ_mul]; have := h n; split <;> omega
/-- the objects of a segment move, among the first n -/
def mgI (d : Nat → Bool) (q : Nat) (to : Int) (f : Nat → Int) : Nat → Nat → Int
  | 0 => f
  | o + 1 => if decide (mgI d q to f o o = (q : Int)) && !d o then va_up (mgI d q to f o) o to else mgI d q to f o
def mgM (M : MT) (f : Nat → Int) : MT := (mkM (m_n M) (m_sn M) (m_vn M) (m_rn M) (m_pn M) (m_nw M) (m_grp M) (m_key M) (m_srt M) (m_sd M) (m_go M) (f) (m_la M) (m_isN M) (m_drp M) (m_has M) (m_sees M) (m_isC M) (m_isG M) (m_ov M) (m_st M) (m_vo M) (m_ko M) (m_sl M) (m_sc M) (m_kp M) (m_en M) (m_pg M))
def mgO (M : MT) (x : Int32) : Nat → Nat → Int
  | 0 => m_seg M
  | q + 1 => if pBel (mgM M (mgO M x q)) x q then mgI (m_drp M) q (m_sn M : Int) (mgO M x q) (m_n M) else mgO M x q
theorem mgI_in {d : Nat → Bool} {q : Nat} {to : Int} {f : Nat → Int} (h : ∀ j, -1 ≤ f j ∧ f j < 40) (ht : -1 ≤ to ∧ to < 40) : ∀ n j, -1 ≤ mgI d q to f n j ∧ mgI d q to f n j < 40 := by
  intro n
  induction n with
  | zero => exact h
  | succ n ih => intro j; simp only [mgI]; split
                 · exact up_in ih ht j
                 · exact ih j
theorem mgO_in {M : MT} (hM : mOk M) (hs : m_sn M < 40) (x : Int32) : ∀ q j, -1 ≤ mgO M x q j ∧ mgO M x q j < 40 := by
  obtain ⟨h1, h2, h3, h4, h5, h6, h7, h8⟩ := id hM
  intro q
  induction q with
  | zero => exact h7
  | succ q ih => intro j; simp only [mgO]; split
                 · exact mgI_in ih (by omega) _ j
                 · exact ih j
theorem ok_mgM {M : MT} (hM : mOk M) {f : Nat → Int} (h : ∀ j, -1 ≤ f j ∧ f j < 40) : mOk (mgM M f) := by
  obtain ⟨h1, h2, h3, h4, h5, h6, h7, h8⟩ := id hM
  exact ⟨h1, h2, h3, h4, h5, h6, h, h8⟩
def mergeR (M : MT) (x : Int32) : Int32 := if cnt (pBel M x) (m_sn M) < 2 then nI 0 else if m_sn M = 40 then zI (-4) else nI (sumB (pBel M x) (liveIn M) (m_sn M))
def mergeM (M : MT) (x : Int32) : MT := if cnt (pBel M x) (m_sn M) < 2 then M else if m_sn M = 40 then M else (mkM (m_n M) (m_sn M + 1) (m_vn M) (m_rn M) (m_pn M) (m_nw M) (m_grp M) (m_key M) (m_srt M) (m_sd M) (m_go M) (mgO M x (m_sn M)) (m_la M) (m_isN M) (m_drp M) (m_has M) (m_sees M) (m_isC M) (m_isG M) (m_ov M) (m_st M) (m_vo M) (m_ko M) (m_sl M) (m_sc M) (m_kp M) (m_en M) (m_pg M))
