/-! what the class's makers and enders do -/
theorem isE.keep2 {L : List Nat} {F : Nat → va_E} {p q : Nat} {e e1 e2 : va_E} (h : isE L (va_up F q e1) p e) (hne : p ≠ q) : isE L (va_up F q e2) p e := ⟨h.1, (va_up_ne F e2 hne).trans ((va_up_ne F e1 hne).symm.trans h.2)⟩
def lsA (P : Nat → Bool) : Nat → Nat → Nat
  | 0 => fun _ => 0
  | i + 1 => if P i then va_up (lsA P i) (cnt P i) i else lsA P i
theorem cnt_mono (P : Nat → Bool) {i n : Nat} (h : i ≤ n) : cnt P i ≤ cnt P n := by
  induction n with
  | zero => rw [Nat.le_zero.mp h]; exact Nat.le_refl _
  | succ n ih =>
    rcases Nat.lt_or_ge n i with g | g
    · rw [(show i = n + 1 by omega)]; exact Nat.le_refl _
    · have := ih g; simp only [cnt]; omega
theorem lsA_end {P : Nat → Bool} {i n : Nat} (h : i ≤ n) (hc : cnt P n ≤ cnt P i) : lsA P n = lsA P i := by
  induction n with
  | zero => rw [Nat.le_zero.mp h]
  | succ n ih =>
    rcases Nat.lt_or_ge n i with g | g
    · rw [(show i = n + 1 by omega)]
    · have h1 := cnt_mono P g
      simp only [cnt] at hc
      by_cases hp : P n = true
      · rw [if_pos hp] at hc; omega
      · simp only [lsA]; rw [if_neg hp]; rw [if_neg hp] at hc; exact ih g (by omega)
def lsN (C : CT) : Nat := cnt (stF (k_home C) (k_drp C)) (k_n C)
def lsL (C : CT) : Nat → Nat := lsA (stF (k_home C) (k_drp C)) (k_n C)
def lsM (cI : ClassId) (C : CT) (q : Nat) : CT := (mkC (k_ra C) (k_rb C) (k_vc C) (k_rc C) (k_pc C) (k_nw C) (k_n C) (k_fn C) (k_sn C) (k_kc C) (k_grp C) (k_key C) (k_srt C) (k_wt C) (k_home C) (k_drp C) (k_met C) (k_kin C) (k_alv C) (k_srs C) (k_row C) (k_sp C) (k_kis C) (k_pg C) (k_vq C) (k_rq C) (k_L C ++ [q]) (va_up (k_F C) (q) (.inl (cI, lsN C, .inl (fun j => nI (lsL C j))))))
def seZ (alv : Nat → Nat) : Nat → Nat → Bool
  | 0 => fun _ => false
  | i + 1 => if 0 < alv i then va_up (seZ alv i) i true else seZ alv i
def seS (alv srs : Nat → Nat) : Nat → Nat → Nat
  | 0 => srs
  | i + 1 => if 0 < alv i then va_up (seS alv srs i) i (seS alv srs i i + 1) else seS alv srs i
theorem seS_le {alv srs : Nat → Nat} : ∀ i j, seS alv srs i j ≤ srs j + 1 ∧ (i ≤ j → seS alv srs i j = srs j) := by
  intro i
  induction i with
  | zero => intro j; exact ⟨by simp [seS], fun _ => rfl⟩
  | succ i ih =>
    intro j
    simp only [seS]
    split
    · unfold va_up
      split
      · rename_i h; subst h
        have h1 := (ih j).2 (Nat.le_refl _)
        exact ⟨by omega, fun h => by omega⟩
      · exact ⟨(ih j).1, fun h => (ih j).2 (by omega)⟩
    · exact ⟨(ih j).1, fun h => (ih j).2 (by omega)⟩
def seM (cZ : ClassId) (C : CT) (q : Nat) : CT := (mkC (k_ra C) (k_rb C) (k_vc C) (k_rc C) (k_pc C) (k_nw C) (k_n C) (k_fn C) (k_sn C) (k_kc C) (k_grp C) (k_key C) (k_srt C) (k_wt C) (k_home C) (k_drp C) (k_met C) (k_kin C) (k_alv C) (seS (k_alv C) (k_srs C) (k_sn C)) (k_row C) (k_sp C) (k_kis C) (k_pg C) (k_vq C) (k_rq C) (k_L C ++ [q]) (va_up (k_F C) (q) (.inl (cZ, k_sn C, .inl (fun j => bI (seZ (k_alv C) (k_sn C) j))))))
def usS (sf : Nat → Bool) (srs : Nat → Nat) : Nat → Nat → Nat
  | 0 => srs
  | i + 1 => if sf i then va_up (usS sf srs i) i (usS sf srs i i - 1) else usS sf srs i
theorem usS_le {sf : Nat → Bool} {srs : Nat → Nat} : ∀ i j, usS sf srs i j ≤ srs j ∧ (i ≤ j → usS sf srs i j = srs j) := by
  intro i
  induction i with
  | zero => intro j; exact ⟨Nat.le_refl _, fun _ => rfl⟩
  | succ i ih =>
    intro j
    simp only [usS]
    split
    · unfold va_up
      split
      · rename_i h; subst h
        have h1 := (ih j).1
        exact ⟨by omega, fun h => by omega⟩
      · exact ⟨(ih j).1, fun h => (ih j).2 (by omega)⟩
    · exact ⟨(ih j).1, fun h => (ih j).2 (by omega)⟩
def usK (alv : Nat → Nat) (sf : Nat → Bool) (srs : Nat → Nat) : Nat → Nat
  | 0 => 0
  | i + 1 => usK alv sf srs i + (if sf i && decide (ssF alv (usS sf srs (i + 1)) i = 2) then 1 else 0)
theorem usK_le {alv : Nat → Nat} {sf : Nat → Bool} {srs : Nat → Nat} (i : Nat) : usK alv sf srs i ≤ i := by
  induction i with
  | zero => exact Nat.le_refl _
  | succ i ih => simp only [usK]; split <;> omega
def usM (C : CT) (n : Nat) (sf : Nat → Bool) : CT := (mkC (k_ra C) (k_rb C) (k_vc C) (k_rc C) (k_pc C) (k_nw C) (k_n C) (k_fn C) (k_sn C) (k_kc C) (k_grp C) (k_key C) (k_srt C) (k_wt C) (k_home C) (k_drp C) (k_met C) (k_kin C) (k_alv C) (usS sf (k_srs C) n) (k_row C) (k_sp C) (k_kis C) (k_pg C) (k_vq C) (k_rq C) (k_L C) (k_F C))
theorem cpy_nI (f g : Nat → Nat) (sp dp n : Nat) : va_cpy (fun j => nI (f j)) (fun j => nI (g j)) sp dp n = fun j => nI (va_cpy f g sp dp n j) := by
  funext j
  by_cases h : dp ≤ j ∧ j < dp + n
  · rw [pk_cpy_in h.1 h.2, pk_cpy_in h.1 h.2]
  · rw [pk_cpy_out (by omega), pk_cpy_out (by omega)]
theorem cpy_lt {f g : Nat → Nat} {sp dp n b : Nat} (hf : ∀ j, j < sp + n → f j < b) (hg : ∀ j, g j < b) (j : Nat) : va_cpy f g sp dp n j < b := by
  by_cases h : dp ≤ j ∧ j < dp + n
  · rw [pk_cpy_in h.1 h.2]; exact hf _ (by omega)
  · rw [pk_cpy_out (by omega)]; exact hg j
def ldM (C : CT) (f : Nat → Nat) (n : Nat) : CT := (mkC (k_ra C) (k_rb C) (k_vc C) (k_rc C) (k_pc C) (k_nw C) (k_n C) (k_fn C) (k_sn C) (n) (k_grp C) (k_key C) (k_srt C) (k_wt C) (k_home C) (k_drp C) (k_met C) (k_kin C) (k_alv C) (k_srs C) (va_cpy f (k_row C) 0 0 n) (k_sp C) (k_kis C) (k_pg C) (k_vq C) (k_rq C) (k_L C) (k_F C))
def viM (C : CT) (q hs se n g : Nat) : CT := (mkC (k_ra C) (k_rb C) (k_vc C) (k_rc C) (k_pc C) (k_nw C) (k_n C) (k_fn C) (k_sn C) (k_kc C) (k_grp C) (k_key C) (k_srt C) (k_wt C) (k_home C) (k_drp C) (k_met C) (k_kin C) (k_alv C) (k_srs C) (k_row C) (k_sp C) (k_kis C) (k_pg C) (k_vq C) (k_rq C) (k_L C) (va_up (k_F C) (q) (.inr (4, [.ref (hs), .ref (se), .int (nI (n)), .int (nI (g)), .int (nI (0)), .int (nI (0))]))))
def riM (C : CT) (q v hs : Nat) (cu : Bool) (kp : Nat) : CT := (mkC (k_ra C) (k_rb C) (k_vc C) (k_rc C) (k_pc C) (k_nw C) (k_n C) (k_fn C) (k_sn C) (k_kc C) (k_grp C) (k_key C) (k_srt C) (k_wt C) (k_home C) (k_drp C) (k_met C) (k_kin C) (k_alv C) (k_srs C) (k_row C) (k_sp C) (k_kis C) (k_pg C) (k_vq C) (k_rq C) (k_L C) (va_up (k_F C) (q) (.inr (1, [.ref (v), .ref (hs), .int (bI (cu)), .int (nI (kp)), .int (nI (0)), .int (nI (0)), .int (bI (false))]))))
def cpR (row : Nat → Nat) (n : Nat) : Nat → Nat := if n = 300 then row else va_cpy row (fun _ => 0) 0 0 n
theorem cpR_at (row : Nat → Nat) {n j : Nat} (h : j < n) : cpR row n j = row j := by
  unfold cpR; split
  · rfl
  · rw [pk_cpy_in (Nat.zero_le _) (by omega)]; simp
theorem cpR_lt {row : Nat → Nat} {b : Nat} (hb : 0 < b) (n : Nat) (h : ∀ j, row j < b) (j : Nat) : cpR row n j < b := by
  unfold cpR; split
  · exact h j
  · exact cpy_lt (fun j _ => h j) (fun _ => hb) j
def cwM (cI : ClassId) (C : CT) (q : Nat) : CT := (mkC (k_ra C) (k_rb C) (k_vc C) (k_rc C) (k_pc C) (k_nw C) (k_n C) (k_fn C) (k_sn C) (k_kc C) (k_grp C) (k_key C) (k_srt C) (k_wt C) (k_home C) (k_drp C) (k_met C) (k_kin C) (k_alv C) (k_srs C) (k_row C) (k_sp C) (k_kis C) (k_pg C) (k_vq C) (k_rq C) (k_L C ++ [q]) (va_up (k_F C) (q) (.inl (cI, k_kc C, .inl (fun j => nI (cpR (k_row C) (k_kc C) j))))))
def orM (C : CT) (q v hs se c g st r : Nat) : CT := (mkC (k_ra C) (k_rb C) (k_vc C) (k_rc C + 1) (k_pc C) (k_nw C) (k_n C) (k_fn C) (k_sn C) (k_kc C) (k_grp C) (k_key C) (k_srt C) (k_wt C) (k_home C) (k_drp C) (k_met C) (k_kin C) (k_alv C) (k_srs C) (k_row C) (k_sp C) (k_kis C) (k_pg C) (k_vq C) (va_up (k_rq C) (k_rc C) (some (q))) (k_L C) (va_up (k_F C) (v) (.inr (4, [.ref (hs), .ref (se), .int (nI (c)), .int (nI (g)), .int (nI (st)), .int (nI (r + 1))]))))
def eiM (C : CT) (v hs se c g st r n : Nat) (sf : Nat → Bool) : CT := if st = 1 ∧ r = 0 then (mkC (k_ra C) (k_rb C) (k_vc C) (k_rc C) (k_pc C) (k_nw C) (k_n C) (k_fn C) (k_sn C) (k_kc C) (k_grp C) (k_key C) (k_srt C) (k_wt C) (k_home C) (k_drp C) (k_met C) (k_kin C) (k_alv C) (usS sf (k_srs C) n) (k_row C) (k_sp C) (k_kis C) (k_pg C) (k_vq C) (k_rq C) (k_L C) (va_up (k_F C) (v) (.inr (4, [.ref (hs), .ref (se), .int (nI (0)), .int (nI (0)), .int (nI (2)), .int (nI (r))])))) else C
def eiR (C : CT) (st r n : Nat) (sf : Nat → Bool) : Nat := if st = 1 ∧ r = 0 then usK (k_alv C) sf (k_srs C) n else 0
def erM0 (C : CT) (q v hs : Nat) (cu : Bool) (kp gv en : Nat) (vh se c g st r : Nat) : CT := (mkC (k_ra C) (k_rb C) (k_vc C) (k_rc C) (k_pc C) (k_nw C) (k_n C) (k_fn C) (k_sn C) (k_kc C) (k_grp C) (k_key C) (k_srt C) (k_wt C) (k_home C) (k_drp C) (k_met C) (k_kin C) (k_alv C) (k_srs C) (k_row C) (k_sp C) (k_kis C) (k_pg C) (k_vq C) (k_rq C) (k_L C) (va_up (va_up (k_F C) (q) (.inr (1, [.ref (v), .ref (hs), .int (bI (cu)), .int (nI (kp)), .int (nI (gv)), .int (nI (en)), .int (bI (true))]))) (v) (.inr (4, [.ref (vh), .ref (se), .int (nI (c)), .int (nI (g)), .int (nI (st)), .int (nI (r - 1))]))))
def erM (C : CT) (q v hs : Nat) (cu : Bool) (kp gv en : Nat) (ed : Bool) (vh se c g st r n : Nat) (sf : Nat → Bool) : CT := if ed then C else eiM (erM0 C q v hs cu kp gv en vh se c g st r) v vh se c g st (r - 1) n sf
def erR (C : CT) (ed : Bool) (st r n : Nat) (sf : Nat → Bool) : Nat := if ed then 0 else eiR C st (r - 1) n sf
theorem ok_srs {C : CT} (hM : kOk C) {f : Nat → Nat} (h : ∀ j, f j < 2000000000) : kOk (mkC (k_ra C) (k_rb C) (k_vc C) (k_rc C) (k_pc C) (k_nw C) (k_n C) (k_fn C) (k_sn C) (k_kc C) (k_grp C) (k_key C) (k_srt C) (k_wt C) (k_home C) (k_drp C) (k_met C) (k_kin C) (k_alv C) (f) (k_row C) (k_sp C) (k_kis C) (k_pg C) (k_vq C) (k_rq C) (k_L C) (k_F C)) := by
  obtain ⟨h1, h2, h3, h4, h5, h6, h7, h8, h9, h10, h11, h12, h13, h14, h15, h16⟩ := id hM
  exact ⟨h1, h2, h3, h4, h5, h6, h7, h8, h9, h10, h11, h, h13, h14, h15, h16⟩
theorem ok_ldM {C : CT} (hM : kOk C) {f : Nat → Nat} {n : Nat} (hn : n ≤ 300) (hf : ∀ j, f j < 300) : kOk (ldM C f n) := by
  obtain ⟨h1, h2, h3, h4, h5, h6, h7, h8, h9, h10, h11, h12, h13, h14, h15, h16⟩ := id hM
  exact ⟨h1, h2, h3, h4, h5, h6, h7, hn, h9, h10, h11, h12, fun j => cpy_lt (fun j _ => hf j) h13 j, h14, h15, h16⟩
theorem ok_anM {C : CT} (hM : kOk C) {kd : Nat} {sd : Int64} : kOk (anM C kd sd) := by
  obtain ⟨h1, h2, h3, h4, h5, h6, h7, h8, h9, h10, h11, h12, h13, h14, h15, h16⟩ := id hM
  unfold anM; exact ok_rs hM (srtL_lt h13 h14 _).1 (srtL_lt h13 h14 _).2
theorem ok_lgM {C : CT} (hM : kOk C)  : kOk (lgM C) := by
  obtain ⟨h1, h2, h3, h4, h5, h6, h7, h8, h9, h10, h11, h12, h13, h14, h15, h16⟩ := id hM
  exact ⟨h1, h2, h3, h4, h5, h6, h7, h8, h9, h10, h11, h12, h13, h14, lgL_lt h10 h15 _, h16⟩
theorem ok_ngM {C : CT} (hM : kOk C) {k9 : Nat} : kOk (ngM C k9) := by
  obtain ⟨h1, h2, h3, h4, h5, h6, h7, h8, h9, h10, h11, h12, h13, h14, h15, h16⟩ := id hM
  exact ⟨h1, h2, h3, h4, h5, h6, h7, Nat.le_trans (nrL_le _ _ _) h8, h9, h10, h11, h12, nrL_lt h13 _, h14, lgL_lt h10 h15 _, h16⟩
theorem ok_nsM {C : CT} (hM : kOk C) {mn wh : Nat} : kOk (nsM C mn wh) := by
  obtain ⟨h1, h2, h3, h4, h5, h6, h7, h8, h9, h10, h11, h12, h13, h14, h15, h16⟩ := id hM
  exact ⟨h1, h2, h3, h4, h5, h6, h7, Nat.le_trans (nrL_le _ _ _) h8, h9, h10, h11, h12, nrL_lt h13 _, h14, h15, h16⟩
