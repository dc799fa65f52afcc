/-! class and reference, side by side -/
def RelV (n vc : Nat) (kin : Nat → Nat) (VT : Nat → VRec) (st : Nat → Nat) (has sees : Nat → Bool) : Prop :=
  (∀ v, v < vc → st v = (VT v).st ∧ Enu ltB (fun o => has (300 * v + o)) n (VT v).f (VT v).c ∧ (VT v).g = gcF kin (fun o => has (300 * v + o)) n ∧ (∀ o, n ≤ o → o < 300 → has (300 * v + o) = false) ∧ ∀ q, q < 40 → sees (40 * v + q) = (decide (q < (VT v).sn) && (VT v).sf q)) ∧
  ∀ v, vc ≤ v → v < 30 → st v = 0 ∧ (∀ o, o < 300 → has (300 * v + o) = false) ∧ ∀ q, q < 40 → sees (40 * v + q) = false
def RelR (n rc : Nat) (grp key srt : Nat → Int64) (has : Nat → Bool) (RT : Nat → RRec) (vo ko sl sc kp en : Nat → Nat) (sd go : Nat → Int64) (isC isG ov : Nat → Bool) (la : Nat → Int) : Prop :=
  (∀ j, j < rc → vo j = (RT j).v ∧ isC j = (RT j).cu ∧ ov j = (RT j).ed ∧ ((RT j).cu = true → kp j = (RT j).kp ∧ en j = (RT j).en) ∧ ((RT j).ed = false → Enu (ahF srt key (ko j) (sd j)) (folP (fun o => has (300 * (RT j).v + o)) grp key (isG j) (go j) (if (RT j).cu then sl j else 0) (sc j)) n (RT j).f (RT j).n ∧ la j = laK (RT j).f (RT j).gv) ∧ ((RT j).cu = false → (RT j).ed = false → (RT j).gv < (RT j).n)) ∧
  ∀ j, rc ≤ j → j < 60 → ov j = false ∧ isG j = false
def RelB (cI cZ : ClassId) (n : Nat) (fn : Nat) (sn : Nat) (vc : Nat) (rc : Nat) (pc : Nat) (nw : Nat) (grp : Nat → Int64) (key : Nat → Int64) (srt : Nat → Int64) (home : Nat → Int) (drp : Nat → Bool) (kin : Nat → Nat) (alv : Nat → Nat) (srs : Nat → Nat) (pg : Nat → Nat) (vq : Nat → Option Nat) (rq : Nat → Option Nat) (L : List Nat) (F : Nat → va_E) (VT : Nat → VRec) (RT : Nat → RRec) (mn : Nat) (msn : Nat) (mvn : Nat) (mrn : Nat) (mpn : Nat) (mnw : Nat) (mgrp : Nat → Int64) (mkey : Nat → Int64) (msrt : Nat → Int64) (mdrp : Nat → Bool) (mseg : Nat → Int) (misN : Nat → Bool) (mst : Nat → Nat) (mhas : Nat → Bool) (msees : Nat → Bool) (mvo : Nat → Nat) (mko : Nat → Nat) (msl : Nat → Nat) (msc : Nat → Nat) (mkp : Nat → Nat) (men : Nat → Nat) (msd : Nat → Int64) (mgo : Nat → Int64) (misC : Nat → Bool) (misG : Nat → Bool) (mov : Nat → Bool) (mla : Nat → Int) (mpg : Nat → Nat) : Prop :=
  PQ cI cZ vc rc vq rq L F VT RT ∧ AI vc rc sn srs VT RT ∧ (n = mn ∧ sn = msn ∧ vc = mvn ∧ rc = mrn ∧ pc = mpn ∧ nw = mnw ∧ grp = mgrp ∧ key = mkey ∧ srt = msrt ∧ drp = mdrp) ∧ RelO n fn sn home alv kin mgrp mdrp mseg misN ∧ RelV n vc kin VT mst mhas msees ∧ RelR n rc mgrp mkey msrt mhas RT mvo mko msl msc mkp men msd mgo misC misG mov mla ∧ ∀ i, i < pc → pg i = mpg i
def Rel (cI cZ : ClassId) (C : CT) (VT : Nat → VRec) (RT : Nat → RRec) (M : MT) : Prop := kOk C ∧ mOk M ∧ RelB cI cZ (k_n C) (k_fn C) (k_sn C) (k_vc C) (k_rc C) (k_pc C) (k_nw C) (k_grp C) (k_key C) (k_srt C) (k_home C) (k_drp C) (k_kin C) (k_alv C) (k_srs C) (k_pg C) (k_vq C) (k_rq C) (k_L C) (k_F C) VT RT (m_n M) (m_sn M) (m_vn M) (m_rn M) (m_pn M) (m_nw M) (m_grp M) (m_key M) (m_srt M) (m_drp M) (m_seg M) (m_isN M) (m_st M) (m_has M) (m_sees M) (m_vo M) (m_ko M) (m_sl M) (m_sc M) (m_kp M) (m_en M) (m_sd M) (m_go M) (m_isC M) (m_isG M) (m_ov M) (m_la M) (m_pg M)
theorem Rel.scr {cI cZ : ClassId} {C C' : CT} {VT : Nat → VRec} {RT : Nat → RRec} {M : MT} (h : Rel cI cZ C VT RT M) (hk : kOk C') (hn : k_n C' = k_n C) (hfn : k_fn C' = k_fn C) (hsn : k_sn C' = k_sn C) (hvc : k_vc C' = k_vc C) (hrc : k_rc C' = k_rc C) (hpc : k_pc C' = k_pc C) (hnw : k_nw C' = k_nw C) (hgrp : k_grp C' = k_grp C) (hkey : k_key C' = k_key C) (hsrt : k_srt C' = k_srt C) (hhome : k_home C' = k_home C) (hdrp : k_drp C' = k_drp C) (hkin : k_kin C' = k_kin C) (halv : k_alv C' = k_alv C) (hsrs : k_srs C' = k_srs C) (hpg : k_pg C' = k_pg C) (hvq : k_vq C' = k_vq C) (hrq : k_rq C' = k_rq C) (hL : k_L C' = k_L C) (hF : k_F C' = k_F C) : Rel cI cZ C' VT RT M := by
  refine ⟨hk, h.2.1, ?_⟩
  rw [hn, hfn, hsn, hvc, hrc, hpc, hnw, hgrp, hkey, hsrt, hhome, hdrp, hkin, halv, hsrs, hpg, hvq, hrq, hL, hF]
  exact h.2.2
theorem Rel.rk {cI cZ : ClassId} {C : CT} {VT : Nat → VRec} {RT : Nat → RRec} {M : MT} (h : Rel cI cZ C VT RT M) {f : Nat → Nat} {c kd : Nat} {sd : Int64} (hk : kOk (rkM C f c kd sd)) : Rel cI cZ (rkM C f c kd sd) VT RT M := h.scr hk rkM_n rkM_fn rkM_sn rkM_vc rkM_rc rkM_pc rkM_nw rkM_grp rkM_key rkM_srt rkM_home rkM_drp rkM_kin rkM_alv rkM_srs rkM_pg rkM_vq rkM_rq rkM_L rkM_F
theorem Rel.ng {cI cZ : ClassId} {C : CT} {VT : Nat → VRec} {RT : Nat → RRec} {M : MT} (h : Rel cI cZ C VT RT M) {k9 : Nat} (hk : kOk (ngM C k9)) : Rel cI cZ (ngM C k9) VT RT M := h.scr hk ngM_n ngM_fn ngM_sn ngM_vc ngM_rc ngM_pc ngM_nw ngM_grp ngM_key ngM_srt ngM_home ngM_drp ngM_kin ngM_alv ngM_srs ngM_pg ngM_vq ngM_rq ngM_L ngM_F
theorem Rel.ns {cI cZ : ClassId} {C : CT} {VT : Nat → VRec} {RT : Nat → RRec} {M : MT} (h : Rel cI cZ C VT RT M) {m w : Nat} (hk : kOk (nsM C m w)) : Rel cI cZ (nsM C m w) VT RT M := h.scr hk nsM_n nsM_fn nsM_sn nsM_vc nsM_rc nsM_pc nsM_nw nsM_grp nsM_key nsM_srt nsM_home nsM_drp nsM_kin nsM_alv nsM_srs nsM_pg nsM_vq nsM_rq nsM_L nsM_F
theorem gcF_succ {kin : Nat → Nat} {P : Nat → Bool} {n k : Nat} (hp : P n = false) (hk : ∀ o, o < n → kin o < n) : gcF (va_up kin n k) P (n + 1) = gcF kin P n := by
  unfold gcF
  simp only [cnt]
  have hany : ∀ z, anyB (fun o => P o && decide (va_up kin n k o = z)) (n + 1) = anyB (fun o => P o && decide (kin o = z)) n := by
    intro z
    simp only [anyB, hp, Bool.false_and, Bool.or_false]
    have : ∀ m, m ≤ n → anyB (fun o => P o && decide (va_up kin n k o = z)) m = anyB (fun o => P o && decide (kin o = z)) m := by
      intro m
      induction m with
      | zero => intro _; rfl
      | succ m ih => intro hm; simp only [anyB]; rw [ih (by omega), va_up_ne _ _ (show m ≠ n by omega)]
    exact this n (Nat.le_refl _)
  have hn : anyB (fun o => P o && decide (va_up kin n k o = n)) (n + 1) = false := by
    rw [hany n]
    cases e : anyB (fun o => P o && decide (kin o = n)) n with
    | false => rfl
    | true =>
      obtain ⟨o, ho, q⟩ := anyB_iff.mp e
      simp only [Bool.and_eq_true, decide_eq_true_eq] at q
      have := hk o ho
      omega
  rw [if_neg (show ¬ (anyB (fun o => P o && decide (va_up kin n k o = n)) (n + 1) = true) by rw [hn]; decide), Nat.add_zero]
  exact cnt_congr (fun z _ => hany z)
theorem RelV.add {n vc : Nat} {kin : Nat → Nat} {VT : Nat → VRec} {st : Nat → Nat} {has sees : Nat → Bool} (h : RelV n vc kin VT st has sees) (hn : n < 300) (hk : ∀ o, o < n → kin o < n) (k : Nat) : RelV (n + 1) vc (va_up kin n k) VT st has sees := by
  refine ⟨fun v hv => ?_, h.2⟩
  obtain ⟨a1, a2, a3, a4, a5⟩ := h.1 v hv
  have hf := a4 n (Nat.le_refl _) hn
  exact ⟨a1, a2.sf hf, by rw [gcF_succ (P := fun o => has (300 * v + o)) hf hk]; exact a3, fun o h1 h2 => a4 o (by omega) h2, a5⟩
theorem ahF_up {srt key : Nat → Int64} {n : Nat} {s k : Int64} {kd : Nat} {sd : Int64} {o o' : Nat} (h : o < n) (h' : o' < n) : ahF (va_up srt n s) (va_up key n k) kd sd o o' = ahF srt key kd sd o o' := by
  unfold ahF cbF wtF
  rw [va_up_ne _ _ (show o ≠ n by omega), va_up_ne _ _ (show o' ≠ n by omega), va_up_ne _ _ (show o ≠ n by omega), va_up_ne _ _ (show o' ≠ n by omega)]
theorem RelR.add {n rc vc : Nat} {grp key srt : Nat → Int64} {has : Nat → Bool} {RT : Nat → RRec} {vo ko sl sc kp en : Nat → Nat} {sd go : Nat → Int64} {isC isG ov : Nat → Bool} {la : Nat → Int} (h : RelR n rc grp key srt has RT vo ko sl sc kp en sd go isC isG ov la) (hh : ∀ v, v < vc → has (300 * v + n) = false) (hv : ∀ j, j < rc → (RT j).v < vc) (g k s : Int64) : RelR (n + 1) rc (va_up grp n g) (va_up key n k) (va_up srt n s) has RT vo ko sl sc kp en sd go isC isG ov la := by
  refine ⟨fun j hj => ?_, h.2⟩
  obtain ⟨a1, a2, a3, a4, a5, a6⟩ := h.1 j hj
  refine ⟨a1, a2, a3, a4, fun he => ⟨?_, (a5 he).2⟩, a6⟩
  have hf : ∀ o, o < n → folP (fun o => has (300 * (RT j).v + o)) (va_up grp n g) (va_up key n k) (isG j) (go j) (if (RT j).cu then sl j else 0) (sc j) o = folP (fun o => has (300 * (RT j).v + o)) grp key (isG j) (go j) (if (RT j).cu then sl j else 0) (sc j) o := fun o ho => by
    unfold folP; rw [va_up_ne _ _ (show o ≠ n by omega), va_up_ne _ _ (show o ≠ n by omega)]
  have h0 : Enu (ahF (va_up srt n s) (va_up key n k) (ko j) (sd j)) (folP (fun o => has (300 * (RT j).v + o)) (va_up grp n g) (va_up key n k) (isG j) (go j) (if (RT j).cu then sl j else 0) (sc j)) n (RT j).f (RT j).n := (a5 he).1.congr (fun _ _ => rfl) (fun o ho => hf o ho) (fun o o' ho ho' _ _ => ahF_up ho ho')
  refine h0.sf ?_
  show (has (300 * (RT j).v + n) && _ && _) = false
  rw [hh _ (hv j hj)]
  rfl
theorem rel_add {cI cZ : ClassId} {C : CT} {VT : Nat → VRec} {RT : Nat → RRec} {M : MT} (h : Rel cI cZ C VT RT M) (g k s : Int64) : addRC C = addR M ∧ Rel cI cZ (addS C g k s) VT RT (addM M g k s) := by
  obtain ⟨hk, hm, hB⟩ := h
  obtain ⟨p1, p2, ⟨en, esn, evn, ern, epn, enw, eg, ek, es, ed⟩, ro, rv, rr, pp⟩ := id hB
  obtain ⟨h1, h2, h3, h4, h5, h6, h7, h8, h9, h10, h11, h12, h13, h14, h15, h16⟩ := id hk
  obtain ⟨g1, g2, g3, g4, g5, g6, g7, g8, g9, g10, g11, g12, g13, g14, g15, g16, g17, g18, g19, g20⟩ := id hm
  unfold addRC addR addS addM
  by_cases hn : k_n C < 300
  · rw [if_pos hn, if_pos hn, if_neg (by omega), if_neg (by omega)]
    refine ⟨by rw [en], ?_, ?_, ?_⟩
    · unfold apM; exact ⟨hn, Nat.le_succ_of_le h2, h3, h4, h5, h6, h7, h8, up_in h9 (by omega), up_lt h10 (Nat.lt_of_le_of_lt (fstB_le _ _) hn), h11, h12, h13, h14, h15, h16⟩
    · exact ⟨by show m_n M + 1 ≤ 300; omega, g2, g3, g4, g5, g6, up_in g7 (by omega), g8, g9, g10, g11, g12, g13, g14, g15, g16, g17, g18, g19, g20⟩
    · unfold apM
      rw [mkC_n, mkC_fn, mkC_sn, mkC_vc, mkC_rc, mkC_pc, mkC_nw, mkC_grp, mkC_key, mkC_srt, mkC_home, mkC_drp, mkC_kin, mkC_alv, mkC_srs, mkC_pg, mkC_vq, mkC_rq, mkC_L, mkC_F]
      rw [mk_n, mk_sn, mk_vn, mk_rn, mk_pn, mk_nw, mk_grp, mk_key, mk_srt, mk_drp, mk_seg, mk_isN, mk_st, mk_has, mk_sees, mk_vo, mk_ko, mk_sl, mk_sc, mk_kp, mk_en, mk_sd, mk_go, mk_isC, mk_isG, mk_ov, mk_la, mk_pg]
      rw [← en]
      have hkin : ∀ o, o < k_n C → k_kin C o < k_n C := fun o ho => Nat.lt_of_le_of_lt (kin_le ro.2.2.2.2.2.2.1 ho) ho
      refine ⟨p1, p2, ⟨rfl, esn, evn, ern, epn, enw, by rw [eg], by rw [ek], by rw [es], ed⟩, ?_, rv.add hn hkin _, rr.add (fun v hv => (rv.1 v hv).2.2.2.1 _ (Nat.le_refl _) hn) p2.2.2.1 g k s, pp⟩
      have := ro.add g
      rw [eg]
      exact this
  · rw [if_neg hn, if_neg hn, if_pos (by omega), if_pos (by omega)]
    exact ⟨rfl, hk, hm, hB⟩
theorem rel_drop {cI cZ : ClassId} {C : CT} {VT : Nat → VRec} {RT : Nat → RRec} {M : MT} (h : Rel cI cZ C VT RT M) {i : Nat} (hi : i < k_n C) : Rel cI cZ (dropC C i) VT RT (dropM M (nI i)) ∧ dropT M (nI i) = 0 ∧ dropR M (nI i) = !k_drp C i := by
  obtain ⟨hk, hm, hB⟩ := h
  obtain ⟨p1, p2, ⟨en, esn, evn, ern, epn, enw, eg, ek, es, ed⟩, ro, rv, rr, pp⟩ := id hB
  obtain ⟨h1, h2, h3, h4, h5, h6, h7, h8, h9, h10, h11, h12, h13, h14, h15, h16⟩ := id hk
  obtain ⟨g1, g2, g3, g4, g5, g6, g7, g8, g9, g10, g11, g12, g13, g14, g15, g16, g17, g18, g19, g20⟩ := id hm
  have hz := nI_z (n := i) (by omega)
  have hnb : ¬ ((nI i).toInt < 0 ∨ ((m_n M : Nat) : Int) ≤ (nI i).toInt) := by rw [hz]; omega
  have hix : ix (nI i) = i := by unfold ix; rw [hz]; omega
  unfold dropM dropT dropR
  rw [if_neg hnb, if_neg hnb, if_neg hnb, hix, ← ed]
  refine ⟨⟨?_, ?_, ?_⟩, rfl, rfl⟩
  · unfold dropC; split
    · exact hk
    · split
      · exact ⟨h1, h2, h3, h4, h5, h6, h7, h8, h9, h10, h11, h12, h13, h14, h15, h16⟩
      · exact ⟨h1, h2, h3, h4, h5, h6, h7, h8, h9, h10, up_lt h11 (Nat.lt_of_le_of_lt (Nat.sub_le _ _) (h11 _)), h12, h13, h14, h15, h16⟩
  · exact ⟨g1, g2, g3, g4, g5, g6, g7, g8, g9, g10, g11, g12, g13, g14, g15, g16, g17, g18, g19, g20⟩
  · unfold dropC
    have ha := fun alv' e => ro.drop (x := i) (alv' := alv') hi e
    rw [← ed] at ha
    by_cases hd : k_drp C i = true
    · rw [if_pos hd]
      have e9 : va_up (k_drp C) i true = k_drp C := by rw [← hd, va_up_same]
      rw [mk_n, mk_sn, mk_vn, mk_rn, mk_pn, mk_nw, mk_grp, mk_key, mk_srt, mk_drp, mk_seg, mk_isN, mk_st, mk_has, mk_sees, mk_vo, mk_ko, mk_sl, mk_sc, mk_kp, mk_en, mk_sd, mk_go, mk_isC, mk_isG, mk_ov, mk_la, mk_pg]
      rw [e9]
      have := ha (k_alv C) (by rw [if_pos hd])
      rw [e9] at this
      exact ⟨p1, p2, ⟨en, esn, evn, ern, epn, enw, eg, ek, es, rfl⟩, this, rv, rr, pp⟩
    · rw [if_neg hd]
      by_cases hh : k_home C i = -1
      · rw [if_pos hh]
        rw [mkC_n, mkC_fn, mkC_sn, mkC_vc, mkC_rc, mkC_pc, mkC_nw, mkC_grp, mkC_key, mkC_srt, mkC_home, mkC_drp, mkC_kin, mkC_alv, mkC_srs, mkC_pg, mkC_vq, mkC_rq, mkC_L, mkC_F]
        rw [mk_n, mk_sn, mk_vn, mk_rn, mk_pn, mk_nw, mk_grp, mk_key, mk_srt, mk_drp, mk_seg, mk_isN, mk_st, mk_has, mk_sees, mk_vo, mk_ko, mk_sl, mk_sc, mk_kp, mk_en, mk_sd, mk_go, mk_isC, mk_isG, mk_ov, mk_la, mk_pg]
        exact ⟨p1, p2, ⟨en, esn, evn, ern, epn, enw, eg, ek, es, rfl⟩, ha _ (by rw [if_neg hd, if_pos hh]), rv, rr, pp⟩
      · rw [if_neg hh]
        rw [mkC_n, mkC_fn, mkC_sn, mkC_vc, mkC_rc, mkC_pc, mkC_nw, mkC_grp, mkC_key, mkC_srt, mkC_home, mkC_drp, mkC_kin, mkC_alv, mkC_srs, mkC_pg, mkC_vq, mkC_rq, mkC_L, mkC_F]
        rw [mk_n, mk_sn, mk_vn, mk_rn, mk_pn, mk_nw, mk_grp, mk_key, mk_srt, mk_drp, mk_seg, mk_isN, mk_st, mk_has, mk_sees, mk_vo, mk_ko, mk_sl, mk_sc, mk_kp, mk_en, mk_sd, mk_go, mk_isC, mk_isG, mk_ov, mk_la, mk_pg]
        exact ⟨p1, p2, ⟨en, esn, evn, ern, epn, enw, eg, ek, es, rfl⟩, ha _ (by rw [if_neg hd, if_neg hh]), rv, rr, pp⟩
