/-! letting go, and the end of a reader -/
def VRec.held (X : VRec) : VRec := vMk X.q X.hs X.se X.c X.g (1) X.r X.n X.sn X.f X.sf
theorem rel_letGo {cI cZ : ClassId} {C : CT} {VT : Nat → VRec} {RT : Nat → RRec} {M : MT} (h : Rel cI cZ C VT RT M) {i : Nat} (hi : i < k_vc C) (h0 : (VT i).st = 0) : Rel cI cZ (eiM (lgoM C (VT i).q (VT i).hs (VT i).se (VT i).c (VT i).g (VT i).r) (VT i).q (VT i).hs (VT i).se (VT i).c (VT i).g 1 (VT i).r (VT i).sn (VT i).sf) (va_up VT i (eiV (VT i).held)) RT (letGoM M (nI i)) ∧ letGoT M (nI i) = 0 ∧ letGoR M (nI i) = nI (eiR (lgoM C (VT i).q (VT i).hs (VT i).se (VT i).c (VT i).g (VT i).r) 1 (VT i).r (VT i).sn (VT i).sf) := by
  obtain ⟨z1, x1, n1⟩ := vT_ok h hi
  have hcof := h.cof 2
  obtain ⟨hk, hm, hB⟩ := h
  obtain ⟨p1, p2, ⟨en, esn, evn, ern, epn, enw, eg, ek, es, ed⟩, ro, rv, rr, pp⟩ := id hB
  obtain ⟨h1, h2, h3, h4, h5, h6, h7, h8, h9, h10, h11, h12, h13, h14, h15, h16⟩ := id hk
  obtain ⟨g1, g2, g3, g4, g5, g6, g7, g8, g9, g10, g11, g12, g13, g14, g15, g16, g17, g18, g19, g20⟩ := id hm
  obtain ⟨v1, v2, v3, v4, v5⟩ := rv.1 i hi
  have hpos := p2.pos hi
  have h0R : Rel0 cI cZ i (lgoM C (VT i).q (VT i).hs (VT i).se (VT i).c (VT i).g (VT i).r) (va_up VT i (VT i).held) RT (letGo1 M (nI i)) := by
    unfold lgoM letGo1
    rw [x1]
    refine ⟨?_, ?_, ?_⟩
    · exact ⟨h1, h2, h3, h4, h5, h6, h7, h8, h9, h10, h11, h12, h13, h14, h15, h16⟩
    · exact ⟨g1, g2, g3, g4, g5, g6, g7, g8, up_lt g9 (by omega), g10, g11, g12, g13, g14, g15, g16, g17, g18, g19, g20⟩
    · rw [mkC_n, mkC_fn, mkC_sn, mkC_vc, mkC_rc, mkC_pc, mkC_nw, mkC_grp, mkC_key, mkC_srt, mkC_home, mkC_drp, mkC_kin, mkC_alv, mkC_srs, mkC_pg, mkC_vq, mkC_rq, mkC_L, mkC_F]
      rw [mk_n, mk_sn, mk_vn, mk_rn, mk_pn, mk_nw, mk_grp, mk_key, mk_srt, mk_drp, mk_seg, mk_isN, mk_st, mk_has, mk_sees, mk_vo, mk_ko, mk_sl, mk_sc, mk_kp, mk_en, mk_sd, mk_go, mk_isC, mk_isG, mk_ov, mk_la, mk_pg]
      obtain ⟨i1, i2, i3, i4⟩ := id p2
      refine ⟨?_, ⟨fun k hk9 => ?_, fun s => ?_, i3, fun k hk9 hne => by rw [va_up_ne _ _ hne]; exact i4 k hk9, hi, ?_⟩, ⟨en, esn, evn, ern, epn, enw, eg, ek, es, ed⟩, ro, ⟨fun w hw => ?_, fun w hw1 hw2 => ?_⟩, rr, pp⟩
      · obtain ⟨_, _, _, _, b1, b2, b3, b4, b5, b6, b7⟩ := p1.1 i hi
        exact p1.setV hi (V := (VT i).held) rfl rfl rfl rfl rfl rfl rfl b1 b3 (show 1 ≤ 2 by omega) b5
      · by_cases e : k = i
        · subst e; rw [va_up_self]; exact i1 k hk9
        · rw [va_up_ne _ _ e]; exact i1 k hk9
      · rw [i2 s]
        refine cnt_congr (fun k _ => ?_)
        by_cases e : k = i
        · subst e; unfold pSe; rw [va_up_self, h0]; rfl
        · unfold pSe; rw [va_up_ne _ _ e]
      · rw [va_up_self]; exact ⟨(i4 i hi).1, show 1 < 2 by omega, (i4 i hi).2.2.2.1 (by omega)⟩
      · by_cases e : w = i
        · subst e; rw [va_up_self, va_up_self]; exact ⟨rfl, v2, v3, v4, v5⟩
        · exact RelV.has (has := m_has M) (has' := m_has M) (VT := VT) (VT' := va_up VT i (VT i).held) (st := m_st M) (st' := va_up (m_st M) i 1) (sees := m_sees M) (sees' := m_sees M) h1 (fun _ _ => rfl) (fun _ _ => rfl) (va_up_ne _ _ e) (va_up_ne _ _ e) (rv.1 w hw)
      · obtain ⟨y1, y2, y3⟩ := rv.2 w hw1 hw2
        exact ⟨by rw [va_up_ne _ _ (show w ≠ i by omega)]; exact y1, y2, y3⟩
  have hs := rel_settle h0R
  rw [va_up_self, va_up_up] at hs
  have hs' : Rel cI cZ (eiM (lgoM C (VT i).q (VT i).hs (VT i).se (VT i).c (VT i).g (VT i).r) (VT i).q (VT i).hs (VT i).se (VT i).c (VT i).g 1 (VT i).r (VT i).sn (VT i).sf) (va_up VT i (eiV (VT i).held)) RT (settleM (letGo1 M (nI i)) i) := hs
  have hl1 : k_alv (lgoM C (VT i).q (VT i).hs (VT i).se (VT i).c (VT i).g (VT i).r) = k_alv C := by unfold lgoM; exact mkC_alv
  have hl2 : k_srs (lgoM C (VT i).q (VT i).hs (VT i).se (VT i).c (VT i).g (VT i).r) = k_srs C := by unfold lgoM; exact mkC_srs
  have hl3 : k_sn (lgoM C (VT i).q (VT i).hs (VT i).se (VT i).c (VT i).g (VT i).r) = k_sn C := by unfold lgoM; exact mkC_sn
  have hR := settle_R (M := M) hs' (by rw [hl1, hl2, hl3]; exact hcof) (by rw [hl3]; exact (p2.2.2.2 i hi).1) (fun _ => by rw [hl2]; exact hpos (by omega))
  unfold letGoM letGoT letGoR
  have hst : m_st M i = 0 := by rw [v1, h0]
  rw [if_neg n1, if_neg n1, if_neg n1, x1, if_pos hst, if_pos hst, if_pos hst]
  exact ⟨hs', rfl, hR⟩
def ovM (M : MT) (o : Nat → Bool) (la : Nat → Int) : MT := (mkM (m_n M) (m_sn M) (m_vn M) (m_rn M) (m_pn M) (m_nw M) (m_grp M) (m_key M) (m_srt M) (m_sd M) (m_go M) (m_seg M) (la) (m_isN M) (m_drp M) (m_has M) (m_sees M) (m_isC M) (m_isG M) (o) (m_st M) (m_vo M) (m_ko M) (m_sl M) (m_sc M) (m_kp M) (m_en M) (m_pg M))
theorem cl1_ov (M : MT) (r : Nat) : cl1 M r = ovM M (va_up (m_ov M) r true) (m_la M) := rfl
theorem nx2_ov (M : MT) (r : Nat) : nx2 M r = ovM M (va_up (m_ov M) r true) (va_up (m_la M) r (nextOf M r)) := rfl
/-- a reader ends, its view not yet settled -/
theorem rel_er0 {cI cZ : ClassId} {C : CT} {VT : Nat → VRec} {RT : Nat → RRec} {M : MT} (h : Rel cI cZ C VT RT M) {j : Nat} (hj : j < k_rc C) (he : (RT j).ed = false) {R' : RRec} {la : Nat → Int} (eq : R'.q = (RT j).q) (ev : R'.v = (RT j).v) (ehs : R'.hs = (RT j).hs) (ecu : R'.cu = (RT j).cu) (ekp : R'.kp = (RT j).kp) (een : R'.en = (RT j).en) (en9 : R'.n = (RT j).n) (ef : R'.f = (RT j).f) (eed : R'.ed = true) (hgv : R'.gv ≤ R'.n) (hla : ∀ k, -1 ≤ la k ∧ la k < 300) (hlo : ∀ k, k ≠ j → la k = m_la M k) :
    Rel0 cI cZ (RT j).v (sfM C (k_srs C) (va_up (va_up (k_F C) (RT j).q (rE (VT (RT j).v).q R')) (VT (RT j).v).q (vE (VT (RT j).v).less))) (va_up VT (RT j).v (VT (RT j).v).less) (va_up RT j R') (ovM M (va_up (m_ov M) j true) la) := by
  obtain ⟨hk, hm, hB⟩ := h
  obtain ⟨p1, p2, ⟨en, esn, evn, ern, epn, enw, eg, ek, es, ed⟩, ro, rv, rr, pp⟩ := id hB
  obtain ⟨h1, h2, h3, h4, h5, h6, h7, h8, h9, h10, h11, h12, h13, h14, h15, h16⟩ := id hk
  obtain ⟨g1, g2, g3, g4, g5, g6, g7, g8, g9, g10, g11, g12, g13, g14, g15, g16, g17, g18, g19, g20⟩ := id hm
  have hal := p2.alive hj he
  have hrun := p2.run hj he
  have hv := p2.2.2.1 j hj
  obtain ⟨i1, i2, i3, i4⟩ := id p2
  obtain ⟨_, _, _, _, b2, b3, b4, b5, b6⟩ := p1.2.1 j hj
  obtain ⟨_, _, _, _, c1, c2, c3, c4, c5, c6, c7⟩ := p1.1 _ hv
  unfold sfM ovM
  refine ⟨?_, ?_, ?_⟩
  · exact ⟨h1, h2, h3, h4, h5, h6, h7, h8, h9, h10, h11, h12, h13, h14, h15, h16⟩
  · exact ⟨g1, g2, g3, g4, g5, g6, g7, hla, g9, g10, g11, g12, g13, g14, g15, g16, g17, g18, g19, g20⟩
  · rw [mkC_n, mkC_fn, mkC_sn, mkC_vc, mkC_rc, mkC_pc, mkC_nw, mkC_grp, mkC_key, mkC_srt, mkC_home, mkC_drp, mkC_kin, mkC_alv, mkC_srs, mkC_pg, mkC_vq, mkC_rq, mkC_L, mkC_F]
    rw [mk_n, mk_sn, mk_vn, mk_rn, mk_pn, mk_nw, mk_grp, mk_key, mk_srt, mk_drp, mk_seg, mk_isN, mk_st, mk_has, mk_sees, mk_vo, mk_ko, mk_sl, mk_sc, mk_kp, mk_en, mk_sd, mk_go, mk_isC, mk_isG, mk_ov, mk_la, mk_pg]
    refine ⟨?_, ⟨fun k hk9 => ?_, fun s => ?_, fun k hk9 => ?_, fun k hk9 hne => by rw [va_up_ne _ _ hne]; exact i4 k hk9, hv, ?_⟩, ⟨en, esn, evn, ern, epn, enw, eg, ek, es, ed⟩, ro, ⟨fun w hw => ?_, rv.2⟩, ⟨fun k hk9 => ?_, fun k hk1 hk2 => ?_⟩, pp⟩
    · have q1 := p1.setR hj (R := R') eq ev ehs en9 ef (by rw [ekp]; exact b4) hgv (by rw [een]; exact b5)
      exact q1.setV hv (V := (VT (RT j).v).less) rfl rfl rfl rfl rfl rfl rfl c1 c3 c4 (Nat.le_trans (Nat.sub_le _ _) c5)
    · by_cases e : k = (RT j).v
      · subst e
        rw [va_up_self]
        have hp : pRd RT (RT j).v j = true := by simp [pRd, he]
        have hq : pRd (va_up RT j R') (RT j).v j = false := by simp only [pRd, va_up_self]; rw [eed]; simp
        have := cnt_dec hj hp hq (fun k _ e => by simp only [pRd, va_up_ne _ _ e])
        show (VT (RT j).v).r - 1 = _
        rw [i1 _ hv]; omega
      · rw [va_up_ne _ _ e, i1 k hk9]
        refine cnt_congr (fun x _ => ?_)
        by_cases ex : x = j
        · subst ex; simp only [pRd, va_up_self]; rw [ev]; simp [show ¬ (RT x).v = k by omega]
        · simp only [pRd, va_up_ne _ _ ex]
    · rw [i2 s]
      refine cnt_congr (fun k _ => ?_)
      by_cases e : k = (RT j).v
      · subst e; simp only [pSe, va_up_self, less_st, less_sn, less_sf]
      · simp only [pSe, va_up_ne _ _ e]
    · by_cases ex : k = j
      · subst ex; rw [va_up_self, ev]; exact hv
      · rw [va_up_ne _ _ ex]; exact i3 k hk9
    · rw [va_up_self]
      exact ⟨(i4 _ hv).1, by show (VT (RT j).v).st < 2; have := (i4 _ hv).2.2.2.2; omega, (i4 _ hv).2.2.2.1 hal⟩
    · by_cases e : w = (RT j).v
      · subst e; rw [va_up_self]; exact rv.1 _ hw
      · rw [va_up_ne _ _ e]; exact rv.1 w hw
    · obtain ⟨a1, a2, a3, a4, a5, a6⟩ := rr.1 k hk9
      by_cases e : k = j
      · subst e
        rw [va_up_self, va_up_self]
        exact ⟨by rw [ev]; exact a1, by rw [ecu]; exact a2, eed.symm, fun z => by rw [ekp, een]; exact a4 (by rw [← ecu]; exact z), fun z => by rw [eed] at z; exact absurd z (by decide), fun _ z => by rw [eed] at z; exact absurd z (by decide)⟩
      · rw [va_up_ne _ _ e, va_up_ne _ _ e, hlo k e]
        exact ⟨a1, a2, a3, a4, a5, a6⟩
    · have := rr.2 k hk1 hk2
      rw [va_up_ne _ _ (show k ≠ j by omega)]
      exact this
/-- .. and settled: the class's state -/
theorem erM_ei {C : CT} {VT : Nat → VRec} {RT : Nat → RRec} {j gv : Nat} : erM C (RT j).q (VT (RT j).v).q (RT j).hs (RT j).cu (RT j).kp gv (RT j).en false (VT (RT j).v).hs (VT (RT j).v).se (VT (RT j).v).c (VT (RT j).v).g (VT (RT j).v).st (VT (RT j).v).r (VT (RT j).v).sn (VT (RT j).v).sf = eiM (sfM C (k_srs C) (va_up (va_up (k_F C) (RT j).q (rE (VT (RT j).v).q (rMk (RT j).q (RT j).v (RT j).hs (RT j).cu (RT j).kp gv (RT j).en true (RT j).n (RT j).f))) (VT (RT j).v).q (vE (VT (RT j).v).less))) (VT (RT j).v).q (VT (RT j).v).hs (VT (RT j).v).se (VT (RT j).v).c (VT (RT j).v).g (VT (RT j).v).st ((VT (RT j).v).r - 1) (VT (RT j).v).sn (VT (RT j).v).sf := by
  unfold erM
  rw [if_neg (by decide)]
  rfl
theorem rT_ok {cI cZ : ClassId} {C : CT} {VT : Nat → VRec} {RT : Nat → RRec} {M : MT} (h : Rel cI cZ C VT RT M) {j : Nat} (hj : j < k_rc C) : (nI j).toInt = (j : Int) ∧ ix (nI j) = j ∧ ¬ ((nI j).toInt < 0 ∨ ((m_rn M : Nat) : Int) ≤ (nI j).toInt) := by
  obtain ⟨z, x⟩ := nIx hj (by have := h.1.2.2.2.2.1; omega)
  refine ⟨z, x, ?_⟩
  have := h.2.2.2.2.1.2.2.2.1
  rw [z]; omega
theorem rel_close {cI cZ : ClassId} {C : CT} {VT : Nat → VRec} {RT : Nat → RRec} {M : MT} (h : Rel cI cZ C VT RT M) {j : Nat} (hj : j < k_rc C) : ∃ VT' RT', Rel cI cZ (erM C (RT j).q (VT (RT j).v).q (RT j).hs (RT j).cu (RT j).kp (RT j).gv (RT j).en (RT j).ed (VT (RT j).v).hs (VT (RT j).v).se (VT (RT j).v).c (VT (RT j).v).g (VT (RT j).v).st (VT (RT j).v).r (VT (RT j).v).sn (VT (RT j).v).sf) VT' RT' (clM M (nI j)) ∧ clR M (nI j) = nI (erR C (RT j).ed (VT (RT j).v).st (VT (RT j).v).r (VT (RT j).v).sn (VT (RT j).v).sf) := by
  obtain ⟨z1, x1, n1⟩ := rT_ok h hj
  have hcof := h.cof 2
  have ho := (h.2.2.2.2.2.2.2.1.1 j hj).2.2.1
  have hvo := (h.2.2.2.2.2.2.2.1.1 j hj).1
  unfold clM clR
  rw [if_neg n1, if_neg n1, x1, ho, hvo]
  cases he : (RT j).ed with
  | true =>
    refine ⟨VT, RT, ?_, rfl⟩
    unfold erM
    rw [if_pos rfl, if_pos rfl]
    exact h
  | false =>
    rw [if_neg (by decide), if_neg (by decide)]
    have hv := h.2.2.2.1.2.2.1 j hj
    have h0 := rel_er0 h hj he (R' := rMk (RT j).q (RT j).v (RT j).hs (RT j).cu (RT j).kp (RT j).gv (RT j).en true (RT j).n (RT j).f) (la := m_la M) rfl rfl rfl rfl rfl rfl rfl rfl rfl (h.2.2.1.2.1 j hj).2.2.2.2.2.1 h.2.1.2.2.2.2.2.2.2.1 (fun _ _ => rfl)
    have hs := rel_settle h0
    rw [va_up_self] at hs
    rw [erM_ei, cl1_ov]
    refine ⟨_, _, hs, ?_⟩
    have hR := settle_R (M := M) hs (by unfold sfM; rw [mkC_alv, mkC_srs, mkC_sn]; exact hcof) (by unfold sfM; rw [mkC_sn]; exact (h.2.2.2.1.2.2.2 _ hv).1) (fun z => by unfold sfM; rw [mkC_srs]; exact h.2.2.2.1.pos hv z)
    unfold erR
    rw [if_neg (by decide)]
    have hei : ∀ S F, eiR (sfM C S F) (VT (RT j).v).st ((VT (RT j).v).r - 1) (VT (RT j).v).sn (VT (RT j).v).sf = if (VT (RT j).v).st = 1 ∧ (VT (RT j).v).r - 1 = 0 then usK (k_alv C) (VT (RT j).v).sf S (VT (RT j).v).sn else 0 := fun S F => by unfold eiR sfM; rw [mkC_alv, mkC_srs]
    have hR' := hR
    rw [less_st, less_r, less_sn, less_sf, hei] at hR'
    rw [hR']
    rfl
