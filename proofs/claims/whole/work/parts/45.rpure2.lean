/-! the ranking's states behind writes -/
theorem ok_row {C : CT} (hM : kOk C) {f : Nat → Nat} (h : ∀ j, f j < 300) : kOk (mkC (k_ra C) (k_rb C) (k_vc C) (k_rc C) (k_pc C) (k_nw C) (k_n C) (k_fn C) (k_sn C) (k_kc C) (k_grp C) (k_key C) (k_srt C) (k_wt C) (k_home C) (k_drp C) (k_met C) (k_kin C) (k_alv C) (k_srs C) (f) (k_sp C) (k_kis C) (k_pg C) (k_vq C) (k_rq C) (k_L C) (k_F C)) := by
  obtain ⟨h1, h2, h3, h4, h5, h6, h7, h8, h9, h10, h11, h12, h13, h14, h15, h16⟩ := id hM
  exact ⟨h1, h2, h3, h4, h5, h6, h7, h8, h9, h10, h11, h12, h, h14, h15, h16⟩
theorem ok_sp {C : CT} (hM : kOk C) {f : Nat → Nat} (h : ∀ j, f j < 300) : kOk (mkC (k_ra C) (k_rb C) (k_vc C) (k_rc C) (k_pc C) (k_nw C) (k_n C) (k_fn C) (k_sn C) (k_kc C) (k_grp C) (k_key C) (k_srt C) (k_wt C) (k_home C) (k_drp C) (k_met C) (k_kin C) (k_alv C) (k_srs C) (k_row C) (f) (k_kis C) (k_pg C) (k_vq C) (k_rq C) (k_L C) (k_F C)) := by
  obtain ⟨h1, h2, h3, h4, h5, h6, h7, h8, h9, h10, h11, h12, h13, h14, h15, h16⟩ := id hM
  exact ⟨h1, h2, h3, h4, h5, h6, h7, h8, h9, h10, h11, h12, h13, h, h15, h16⟩
def mrM (C : CT) (fr md to : Nat) : CT := (mkC (k_ra C) (k_rb C) (k_vc C) (k_rc C) (k_pc C) (k_nw C) (k_n C) (k_fn C) (k_sn C) (k_kc C) (k_grp C) (k_key C) (k_srt C) (k_wt C) (k_home C) (k_drp C) (k_met C) (k_kin C) (k_alv C) (k_srs C) (k_row C) (mrF (k_row C) (k_wt C) (k_key C) (k_sp C) fr md to) (k_kis C) (k_pg C) (k_vq C) (k_rq C) (k_L C) (k_F C))
def lgR (C : CT) : Nat × (Nat → Bool) × (Nat → Nat) := lgL (k_kin C) (k_row C) (meL (k_kin C) (k_row C) (k_met C) (k_kc C)) (k_kis C) (k_kc C)
def lgM (C : CT) : CT := (mkC (k_ra C) (k_rb C) (k_vc C) (k_rc C) (k_pc C) (k_nw C) (k_n C) (k_fn C) (k_sn C) (k_kc C) (k_grp C) (k_key C) (k_srt C) (k_wt C) (k_home C) (k_drp C) ((lgR C).2.1) (k_kin C) (k_alv C) (k_srs C) (k_row C) (k_sp C) ((lgR C).2.2) (k_pg C) (k_vq C) (k_rq C) (k_L C) (k_F C))
def pKin (kin : Nat → Nat) (z : Int) (o : Nat) : Bool := decide (((kin o : Nat) : Int) = z)
def ngR (C : CT) (k9 : Nat) : Nat × (Nat → Nat) := nrL (pKin (k_kin C) ((lgL (k_kin C) (k_row C) (meL (k_kin C) (k_row C) (k_met C) (k_kc C)) (k_kis C) (k_kc C)).2.2 k9 : Int)) (k_row C) (k_kc C)
def ngM (C : CT) (k9 : Nat) : CT := (mkC (k_ra C) (k_rb C) (k_vc C) (k_rc C) (k_pc C) (k_nw C) (k_n C) (k_fn C) (k_sn C) ((ngR C k9).1) (k_grp C) (k_key C) (k_srt C) (k_wt C) (k_home C) (k_drp C) ((lgL (k_kin C) (k_row C) (meL (k_kin C) (k_row C) (k_met C) (k_kc C)) (k_kis C) (k_kc C)).2.1) (k_kin C) (k_alv C) (k_srs C) ((ngR C k9).2) (k_sp C) ((lgL (k_kin C) (k_row C) (meL (k_kin C) (k_row C) (k_met C) (k_kc C)) (k_kis C) (k_kc C)).2.2) (k_pg C) (k_vq C) (k_rq C) (k_L C) (k_F C))
def pSl (key : Nat → Int64) (mn wh o : Nat) : Bool := decide (sliceV (key o) mn = (nI wh).toInt64)
def nsR (C : CT) (mn wh : Nat) : Nat × (Nat → Nat) := nrL (pSl (k_key C) mn wh) (k_row C) (k_kc C)
def nsM (C : CT) (mn wh : Nat) : CT := (mkC (k_ra C) (k_rb C) (k_vc C) (k_rc C) (k_pc C) (k_nw C) (k_n C) (k_fn C) (k_sn C) ((nsR C mn wh).1) (k_grp C) (k_key C) (k_srt C) (k_wt C) (k_home C) (k_drp C) (k_met C) (k_kin C) (k_alv C) (k_srs C) ((nsR C mn wh).2) (k_sp C) (k_kis C) (k_pg C) (k_vq C) (k_rq C) (k_L C) (k_F C))
