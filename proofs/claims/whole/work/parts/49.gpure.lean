/-! the class's own writes -/
def addS (C : CT) (g k s : Int64) : CT := if k_n C < 300 then apM C g k s else C
def addRC (C : CT) : Int32 := if k_n C < 300 then nI (k_n C) else zI (-4)
def mvL (home : Nat → Int) (drp : Nat → Bool) (alv : Nat → Nat) (x : Int32) (to : Nat) : Nat → Nat × (Nat → Int)
  | 0 => (0, home)
  | i + 1 => if stF (mvL home drp alv x to i).2 drp i && beF alv x ((mvL home drp alv x to i).2 i).toNat then ((mvL home drp alv x to i).1 + 1, va_up (mvL home drp alv x to i).2 i (to : Int)) else mvL home drp alv x to i
theorem mvL_t {home h : Nat → Int} {drp : Nat → Bool} {alv : Nat → Nat} {x : Int32} {to i k : Nat} (hm : mvL home drp alv x to i = (k, h)) (h1 : stF h drp i = true) (h2 : beF alv x (h i).toNat = true) : mvL home drp alv x to (i + 1) = (k + 1, va_up h i (to : Int)) := by
  simp only [mvL, hm]; rw [if_pos (by simp [h1, h2])]
theorem mvL_f {home h : Nat → Int} {drp : Nat → Bool} {alv : Nat → Nat} {x : Int32} {to i k : Nat} (hm : mvL home drp alv x to i = (k, h)) (h1 : stF h drp i = false ∨ beF alv x (h i).toNat = false) : mvL home drp alv x to (i + 1) = (k, h) := by
  simp only [mvL, hm]; rw [if_neg (by rcases h1 with q | q <;> simp [q])]
theorem mvL_le (home : Nat → Int) (drp : Nat → Bool) (alv : Nat → Nat) (x : Int32) (to i : Nat) : (mvL home drp alv x to i).1 ≤ i := by
  induction i with
  | zero => exact Nat.le_refl _
  | succ i ih => simp only [mvL]; split
                 · show (mvL home drp alv x to i).1 + 1 ≤ i + 1; omega
                 · omega
theorem stF_t {home : Nat → Int} {drp : Nat → Bool} {o : Nat} (h : stF home drp o = true) : home o ≠ -1 := by
  simp only [stF, Bool.and_eq_true, decide_eq_true_eq] at h; exact h.1
def mvM (C : CT) (x : Int32) (to : Nat) : CT := (mkC (k_ra C) (k_rb C) (k_vc C) (k_rc C) (k_pc C) (k_nw C) (k_n C) (k_fn C) (k_sn C) (k_kc C) (k_grp C) (k_key C) (k_srt C) (k_wt C) ((mvL (k_home C) (k_drp C) (k_alv C) x to (k_n C)).2) (k_drp C) (k_met C) (k_kin C) (k_alv C) (k_srs C) (k_row C) (k_sp C) (k_kis C) (k_pg C) (k_vq C) (k_rq C) (k_L C) (k_F C))
def commitS (C : CT) : CT := if newF (k_fn C) (k_drp C) (k_n C) = 0 then (mkC (k_ra C) (k_rb C) (k_vc C) (k_rc C) (k_pc C) (k_nw C) (k_n C) (k_n C) (k_sn C) (k_kc C) (k_grp C) (k_key C) (k_srt C) (k_wt C) (k_home C) (k_drp C) (k_met C) (k_kin C) (k_alv C) (k_srs C) (k_row C) (k_sp C) (k_kis C) (k_pg C) (k_vq C) (k_rq C) (k_L C) (k_F C)) else if 40 ≤ k_sn C then C else (mkC (k_ra C) (k_rb C) (k_vc C) (k_rc C) (k_pc C) (k_nw C) (k_n C) (k_n C) (k_sn C + 1) (k_kc C) (k_grp C) (k_key C) (k_srt C) (k_wt C) (snH (k_fn C) (k_drp C) (k_home C) (k_sn C) (k_n C)) (k_drp C) (k_met C) (k_kin C) (va_up (k_alv C) (k_sn C) (newF (k_fn C) (k_drp C) (k_n C))) (k_srs C) (k_row C) (k_sp C) (k_kis C) (k_pg C) (k_vq C) (k_rq C) (k_L C) (k_F C))
def commitRC (C : CT) : Int32 := if newF (k_fn C) (k_drp C) (k_n C) = 0 then nI 0 else if 40 ≤ k_sn C then zI (-4) else nI (newF (k_fn C) (k_drp C) (k_n C))
def mergeS (C : CT) (x : Int32) : CT := if cnt (beF (k_alv C) x) (k_sn C) < 2 then C else if 40 ≤ k_sn C then C else (mkC (k_ra C) (k_rb C) (k_vc C) (k_rc C) (k_pc C) (k_nw C) (k_n C) (k_fn C) (k_sn C + 1) (k_kc C) (k_grp C) (k_key C) (k_srt C) (k_wt C) ((mvL (k_home C) (k_drp C) (k_alv C) x (k_sn C) (k_n C)).2) (k_drp C) (k_met C) (k_kin C) (va_up (ebA (k_alv C) x (k_sn C)) (k_sn C) ((mvL (k_home C) (k_drp C) (k_alv C) x (k_sn C) (k_n C)).1)) (k_srs C) (k_row C) (k_sp C) (k_kis C) (k_pg C) (k_vq C) (k_rq C) (k_L C) (k_F C))
def mergeRC (C : CT) (x : Int32) : Int32 := if cnt (beF (k_alv C) x) (k_sn C) < 2 then nI 0 else if 40 ≤ k_sn C then zI (-4) else nI (mvL (k_home C) (k_drp C) (k_alv C) x (k_sn C) (k_n C)).1
theorem ok_ha {C : CT} (hM : kOk C) {f : Nat → Int} {e : Nat → Nat} (ghome : ∀ j, -1 ≤ f j ∧ f j < 40) (galv : ∀ j, e j < 2000000000) : kOk (mkC (k_ra C) (k_rb C) (k_vc C) (k_rc C) (k_pc C) (k_nw C) (k_n C) (k_fn C) (k_sn C) (k_kc C) (k_grp C) (k_key C) (k_srt C) (k_wt C) (f) (k_drp C) (k_met C) (k_kin C) (e) (k_srs C) (k_row C) (k_sp C) (k_kis C) (k_pg C) (k_vq C) (k_rq C) (k_L C) (k_F C)) := by
  obtain ⟨h1, h2, h3, h4, h5, h6, h7, h8, h9, h10, h11, h12, h13, h14, h15, h16⟩ := id hM
  exact ⟨h1, h2, h3, h4, h5, h6, h7, h8, ghome, h10, galv, h12, h13, h14, h15, h16⟩
theorem ok_sa {C : CT} (hM : kOk C) {n9 : Nat} {e : Nat → Nat} (gsn : n9 ≤ 40) (galv : ∀ j, e j < 2000000000) : kOk (mkC (k_ra C) (k_rb C) (k_vc C) (k_rc C) (k_pc C) (k_nw C) (k_n C) (k_fn C) (n9) (k_kc C) (k_grp C) (k_key C) (k_srt C) (k_wt C) (k_home C) (k_drp C) (k_met C) (k_kin C) (e) (k_srs C) (k_row C) (k_sp C) (k_kis C) (k_pg C) (k_vq C) (k_rq C) (k_L C) (k_F C)) := by
  obtain ⟨h1, h2, h3, h4, h5, h6, h7, h8, h9, h10, h11, h12, h13, h14, h15, h16⟩ := id hM
  exact ⟨h1, h2, gsn, h4, h5, h6, h7, h8, h9, h10, galv, h12, h13, h14, h15, h16⟩
theorem ok_home {C : CT} (hM : kOk C) {f : Nat → Int} (h : ∀ j, -1 ≤ f j ∧ f j < 40) : kOk (mkC (k_ra C) (k_rb C) (k_vc C) (k_rc C) (k_pc C) (k_nw C) (k_n C) (k_fn C) (k_sn C) (k_kc C) (k_grp C) (k_key C) (k_srt C) (k_wt C) (f) (k_drp C) (k_met C) (k_kin C) (k_alv C) (k_srs C) (k_row C) (k_sp C) (k_kis C) (k_pg C) (k_vq C) (k_rq C) (k_L C) (k_F C)) := by
  obtain ⟨h1, h2, h3, h4, h5, h6, h7, h8, h9, h10, h11, h12, h13, h14, h15, h16⟩ := id hM
  exact ⟨h1, h2, h3, h4, h5, h6, h7, h8, h, h10, h11, h12, h13, h14, h15, h16⟩
theorem mvL_in {home : Nat → Int} {drp : Nat → Bool} {alv : Nat → Nat} {x : Int32} {to : Nat} (h : ∀ j, -1 ≤ home j ∧ home j < 40) (ht : to < 40) : ∀ i j, -1 ≤ (mvL home drp alv x to i).2 j ∧ (mvL home drp alv x to i).2 j < 40 := by
  intro i
  induction i with
  | zero => exact h
  | succ i ih => intro j; simp only [mvL]; split
                 · exact up_in ih (by omega) j
                 · exact ih j
