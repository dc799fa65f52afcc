/-! readers asked: what comes next, what is left, pages -/
theorem nextOf_at {M : MT} {r n c k : Nat} {f : Nat → Nat} (hn : m_n M = n) (h : Enu (ahF (m_srt M) (m_key M) (m_ko M r) (m_sd M r)) (folP (m_in M (m_vo M r)) (m_grp M) (m_key M) (m_isG M r) (m_go M r) (if m_isC M r then m_sl M r else 0) (m_sc M r)) n f c) (hl : m_la M r = laK f k) (hk : k ≤ c) : nextOf M r = nxK f c k := by
  subst hn
  unfold nextOf
  rw [hl]
  refine following_at ?_ hk
  rw [aheadB_eq]
  exact h
theorem Rel.rd {cI cZ : ClassId} {C : CT} {VT : Nat → VRec} {RT : Nat → RRec} {M : MT} (h : Rel cI cZ C VT RT M) {j : Nat} (hj : j < k_rc C) (he : (RT j).ed = false) : Enu (ahF (m_srt M) (m_key M) (m_ko M j) (m_sd M j)) (folP (m_in M (m_vo M j)) (m_grp M) (m_key M) (m_isG M j) (m_go M j) (if m_isC M j then m_sl M j else 0) (m_sc M j)) (m_n M) (RT j).f (RT j).n ∧ m_la M j = laK (RT j).f (RT j).gv ∧ (RT j).gv ≤ (RT j).n ∧ (RT j).n ≤ 300 ∧ (∀ i, i < (RT j).n → (RT j).f i < m_n M) := by
  obtain ⟨hk, hm, hB⟩ := h
  obtain ⟨p1, p2, ⟨en, esn, evn, ern, epn, enw, eg, ek, es, ed⟩, ro, rv, rr, pp⟩ := id hB
  obtain ⟨h1, h2, h3, h4, h5, h6, h7, h8, h9, h10, h11, h12, h13, h14, h15, h16⟩ := id hk
  obtain ⟨g1, g2, g3, g4, g5, g6, g7, g8, g9, g10, g11, g12, g13, g14, g15, g16, g17, g18, g19, g20⟩ := id hm
  obtain ⟨a1, a2, a3, a4, a5, a6⟩ := rr.1 j hj
  obtain ⟨_, _, _, _, b2, b3, _⟩ := p1.2.1 j hj
  have hE := (a5 he).1
  refine ⟨?_, (a5 he).2, b3, b2, fun i hi => by rw [← en]; exact (hE.1 i hi).1⟩
  rw [a1, a2, ← en]
  exact hE
theorem Rel.nxt {cI cZ : ClassId} {C : CT} {VT : Nat → VRec} {RT : Nat → RRec} {M : MT} (h : Rel cI cZ C VT RT M) {j : Nat} (hj : j < k_rc C) (he : (RT j).ed = false) : nextOf M j = nxK (RT j).f (RT j).n (RT j).gv := by
  obtain ⟨h1, h2, h3, _⟩ := h.rd hj he
  exact nextOf_at rfl h1 h2 h3
theorem setLa_nxt {M : MT} {r c k : Nat} {f : Nat → Nat} {w : Int} (h : Enu (ahF (m_srt M) (m_key M) (m_ko M r) (m_sd M r)) (folP (m_in M (m_vo M r)) (m_grp M) (m_key M) (m_isG M r) (m_go M r) (if m_isC M r then m_sl M r else 0) (m_sc M r)) (m_n M) f c) (hw : w = laK f k) (hk : k ≤ c) : nextOf (setLa M (va_up (m_la M) r w)) r = nxK f c k := by
  refine nextOf_at (n := m_n M) ?_ ?_ ?_ hk
  · unfold setLa; rw [mk_n]
  · unfold m_in setLa
    rw [mk_srt, mk_key, mk_ko, mk_sd, mk_has, mk_vo, mk_grp, mk_isG, mk_go, mk_isC, mk_sl, mk_sc]
    exact h
  · unfold setLa; rw [mk_la, va_up_self]; exact hw
theorem laK_nx {f : Nat → Nat} {c k : Nat} (h : k < c) : nxK f c k = laK f (k + 1) := by unfold nxK laK; rw [if_pos h, if_neg (by omega), Nat.add_sub_cancel]
theorem lfS_at {cI cZ : ClassId} {C : CT} {VT : Nat → VRec} {RT : Nat → RRec} {M : MT} (h : Rel cI cZ C VT RT M) {j : Nat} (hj : j < k_rc C) (he : (RT j).ed = false) : ∀ i, i ≤ (RT j).n - (RT j).gv → lfS M j i = setLa M (va_up (m_la M) j (laK (RT j).f ((RT j).gv + i))) ∧ nextOf (lfS M j i) j = nxK (RT j).f (RT j).n ((RT j).gv + i) := by
  obtain ⟨h1, h2, h3, _⟩ := h.rd hj he
  intro i
  induction i with
  | zero =>
    intro _
    have e : lfS M j 0 = setLa M (va_up (m_la M) j (laK (RT j).f ((RT j).gv + 0))) := by rw [Nat.add_zero, ← h2, va_up_same, setLa_self]; rfl
    exact ⟨e, by rw [e]; exact setLa_nxt h1 rfl (by omega)⟩
  | succ i ih =>
    intro hi
    obtain ⟨e1, e2⟩ := ih (by omega)
    have e : lfS M j (i + 1) = setLa M (va_up (m_la M) j (laK (RT j).f ((RT j).gv + (i + 1)))) := by
      show setLa (lfS M j i) (va_up (m_la (lfS M j i)) j (nextOf (lfS M j i) j)) = _
      rw [e2, laK_nx (by omega), e1]
      show setLa M (va_up (va_up (m_la M) j _) j _) = _
      rw [va_up_up]
      rfl
    exact ⟨e, by rw [e]; exact setLa_nxt h1 rfl (by omega)⟩
theorem rel_left {cI cZ : ClassId} {C : CT} {VT : Nat → VRec} {RT : Nat → RRec} {M : MT} (h : Rel cI cZ C VT RT M) {j : Nat} (hj : j < k_rc C) : lfT M (nI j) = 0 ∧ lfR M (nI j) ((RT j).n - (RT j).gv) = (if (RT j).ed then zI (-1) else nI ((RT j).n - (RT j).gv)) ∧ (m_ov M (ix (nI j)) = false → leftK M (ix (nI j)) ((RT j).n - (RT j).gv)) := by
  obtain ⟨z1, x1, n1⟩ := rT_ok h hj
  have ho := (h.2.2.2.2.2.2.2.1.1 j hj).2.2.1
  unfold lfT lfR
  rw [if_neg n1, if_neg n1, x1, ho]
  refine ⟨rfl, rfl, fun he => ?_⟩
  obtain ⟨h1, h2, h3, h4, _⟩ := h.rd hj he
  have hl := lfS_at h hj he
  refine ⟨by omega, fun i hi => ?_, ?_⟩
  · rw [(hl i (by omega)).2]; unfold nxK; rw [if_pos (by omega)]; omega
  · rw [(hl _ (Nat.le_refl _)).2]; unfold nxK; rw [if_neg (by omega)]; decide
/-- the next hit of an iterator -/
theorem rel_next {cI cZ : ClassId} {C : CT} {VT : Nat → VRec} {RT : Nat → RRec} {M : MT} (h : Rel cI cZ C VT RT M) {j : Nat} (hj : j < k_rc C) (hcu : (RT j).cu = false) (he : (RT j).ed = false) (hgn : (RT j).gv < (RT j).n) : ∃ VT' RT', Rel cI cZ (egM (nxC C (RT j).q (VT (RT j).v).q (RT j).hs (RT j).cu (RT j).kp (RT j).gv (RT j).en (RT j).ed) (RT j).q (VT (RT j).v).q (RT j).hs (RT j).cu (RT j).kp ((RT j).gv + 1) (RT j).en (RT j).ed (RT j).n (VT (RT j).v).hs (VT (RT j).v).se (VT (RT j).v).c (VT (RT j).v).g (VT (RT j).v).st (VT (RT j).v).r (VT (RT j).v).sn (VT (RT j).v).sf) VT' RT' (nxM M (nI j)) ∧ nxT M (nI j) = 0 ∧ nxR M (nI j) = nI ((RT j).f (RT j).gv) := by
  obtain ⟨z1, x1, n1⟩ := rT_ok h hj
  obtain ⟨r1, r2, r3, r4, r5⟩ := h.rd hj he
  have hnx := h.nxt hj he
  have hnx' : nextOf M j = laK (RT j).f ((RT j).gv + 1) := hnx.trans (laK_nx hgn)
  have hval : nextOf M j = (((RT j).f (RT j).gv : Nat) : Int) := by rw [hnx]; unfold nxK; rw [if_pos hgn]
  have hnx1 : nextOf (nx1 M j) j = nxK (RT j).f (RT j).n ((RT j).gv + 1) := by
    show nextOf (setLa M (va_up (m_la M) j (nextOf M j))) j = _
    exact setLa_nxt r1 hnx' (by omega)
  have h0 := h
  obtain ⟨hk, hm, hB⟩ := h
  obtain ⟨p1, p2, ⟨en, esn, evn, ern, epn, enw, eg, ek, es, ed⟩, ro, rv, rr, pp⟩ := id hB
  obtain ⟨h1, h2, h3, h4, h5, h6, h7, h8, h9, h10, h11, h12, h13, h14, h15, h16⟩ := id hk
  obtain ⟨g1, g2, g3, g4, g5, g6, g7, g8, g9, g10, g11, g12, g13, g14, g15, g16, g17, g18, g19, g20⟩ := id hm
  obtain ⟨a1, a2, a3, a4, a5, a6⟩ := rr.1 j hj
  have hf3 : (RT j).f (RT j).gv < 300 := Nat.lt_of_lt_of_le (r5 _ hgn) g1
  have hla : ∀ k, -1 ≤ va_up (m_la M) j (nextOf M j) k ∧ va_up (m_la M) j (nextOf M j) k < 300 := up_in g8 (by rw [hval]; omega)
  have eM : nxM M (nI j) = if nextOf (nx1 M j) j < 0 then settleM (nx2 M j) (m_vo M j) else nx1 M j := by
    unfold nxM; rw [if_neg n1, x1, a2, hcu, a3, he]; simp only [Bool.false_eq_true, if_false]
  have eT : nxT M (nI j) = 0 := by
    unfold nxT; rw [if_neg n1, x1, a2, hcu, a3, he]; simp only [Bool.false_eq_true, if_false]
  have eR : nxR M (nI j) = zI (nextOf M j) := by
    unfold nxR; rw [if_neg n1, x1, a2, hcu, a3, he]; simp only [Bool.false_eq_true, if_false]
  rw [eM, eT, eR, hnx1]
  unfold egM
  by_cases hend : (RT j).gv + 1 < (RT j).n
  · rw [if_neg (by omega)]
    have hnn : ¬ nxK (RT j).f (RT j).n ((RT j).gv + 1) < 0 := by unfold nxK; rw [if_pos hend]; omega
    rw [if_neg hnn]
    refine ⟨VT, va_up RT j (rMk (RT j).q (RT j).v (RT j).hs (RT j).cu (RT j).kp ((RT j).gv + 1) (RT j).en (RT j).ed (RT j).n (RT j).f), ⟨?_, ?_, ?_⟩, rfl, by rw [hval]; exact zI_n _⟩
    · unfold nxC; exact ⟨h1, h2, h3, h4, h5, h6, h7, h8, h9, h10, h11, h12, h13, h14, h15, h16⟩
    · unfold nx1; exact ⟨g1, g2, g3, g4, g5, g6, g7, hla, g9, g10, g11, g12, g13, g14, g15, g16, g17, g18, g19, g20⟩
    · obtain ⟨_, _, _, _, b2, b3, b4, b5, b6⟩ := p1.2.1 j hj
      have hq := p1.setR hj (R := rMk (RT j).q (RT j).v (RT j).hs (RT j).cu (RT j).kp ((RT j).gv + 1) (RT j).en (RT j).ed (RT j).n (RT j).f) rfl rfl rfl rfl rfl b4 (show (RT j).gv + 1 ≤ (RT j).n by omega) b5
      unfold nxC nx1
      rw [mkC_n, mkC_fn, mkC_sn, mkC_vc, mkC_rc, mkC_pc, mkC_nw, mkC_grp, mkC_key, mkC_srt, mkC_home, mkC_drp, mkC_kin, mkC_alv, mkC_srs, mkC_pg, mkC_vq, mkC_rq, mkC_L, mkC_F]
      rw [mk_n, mk_sn, mk_vn, mk_rn, mk_pn, mk_nw, mk_grp, mk_key, mk_srt, mk_drp, mk_seg, mk_isN, mk_st, mk_has, mk_sees, mk_vo, mk_ko, mk_sl, mk_sc, mk_kp, mk_en, mk_sd, mk_go, mk_isC, mk_isG, mk_ov, mk_la, mk_pg]
      obtain ⟨i1, i2, i3, i4⟩ := id p2
      have hpr : ∀ i k, pRd (va_up RT j (rMk (RT j).q (RT j).v (RT j).hs (RT j).cu (RT j).kp ((RT j).gv + 1) (RT j).en (RT j).ed (RT j).n (RT j).f)) i k = pRd RT i k := fun i k => by
        by_cases e : k = j
        · subst e; simp only [pRd, va_up_self, rMk_v, rMk_ed]
        · simp only [pRd, va_up_ne _ _ e]
      refine ⟨?_, ⟨fun i hi => by rw [cnt_congr (Q := pRd RT i) (fun k _ => hpr i k)]; exact i1 i hi, i2, fun k hk9 => ?_, i4⟩, ⟨en, esn, evn, ern, epn, enw, eg, ek, es, ed⟩, ro, rv, ⟨fun k hk9 => ?_, rr.2⟩, pp⟩
      · exact hq
      · by_cases e : k = j
        · subst e; rw [va_up_self]; exact i3 k hk9
        · rw [va_up_ne _ _ e]; exact i3 k hk9
      · by_cases e : k = j
        · subst e
          rw [va_up_self, va_up_self]
          exact ⟨a1, a2, a3, a4, fun z => ⟨(a5 z).1, hnx'⟩, fun _ _ => hend⟩
        · rw [va_up_ne _ _ e, va_up_ne _ _ e]; exact rr.1 k hk9
  · rw [if_pos (by omega)]
    have hnn : nxK (RT j).f (RT j).n ((RT j).gv + 1) < 0 := by unfold nxK; rw [if_neg hend]; decide
    rw [if_pos hnn]
    have h00 := rel_er0 h0 hj he (R' := rMk (RT j).q (RT j).v (RT j).hs (RT j).cu (RT j).kp ((RT j).gv + 1) (RT j).en true (RT j).n (RT j).f) (la := va_up (m_la M) j (nextOf M j)) rfl rfl rfl rfl rfl rfl rfl rfl rfl (show (RT j).gv + 1 ≤ (RT j).n by omega) hla (fun k hk9 => va_up_ne _ _ hk9)
    have hs := rel_settle h00
    rw [va_up_self] at hs
    have hcl : erM (nxC C (RT j).q (VT (RT j).v).q (RT j).hs (RT j).cu (RT j).kp (RT j).gv (RT j).en (RT j).ed) (RT j).q (VT (RT j).v).q (RT j).hs (RT j).cu (RT j).kp ((RT j).gv + 1) (RT j).en (RT j).ed (VT (RT j).v).hs (VT (RT j).v).se (VT (RT j).v).c (VT (RT j).v).g (VT (RT j).v).st (VT (RT j).v).r (VT (RT j).v).sn (VT (RT j).v).sf = eiM (sfM C (k_srs C) (va_up (va_up (k_F C) (RT j).q (rE (VT (RT j).v).q (rMk (RT j).q (RT j).v (RT j).hs (RT j).cu (RT j).kp ((RT j).gv + 1) (RT j).en true (RT j).n (RT j).f))) (VT (RT j).v).q (vE (VT (RT j).v).less))) (VT (RT j).v).q (VT (RT j).v).hs (VT (RT j).v).se (VT (RT j).v).c (VT (RT j).v).g (VT (RT j).v).st ((VT (RT j).v).r - 1) (VT (RT j).v).sn (VT (RT j).v).sf := by
      unfold erM
      rw [he, if_neg (by decide)]
      congr 1
      unfold erM0 nxC sfM
      rw [mkC_ra, mkC_rb, mkC_vc, mkC_rc, mkC_pc, mkC_nw, mkC_n, mkC_fn, mkC_sn, mkC_kc, mkC_grp, mkC_key, mkC_srt, mkC_wt, mkC_home, mkC_drp, mkC_met, mkC_kin, mkC_alv, mkC_srs, mkC_row, mkC_sp, mkC_kis, mkC_pg, mkC_vq, mkC_rq, mkC_L, mkC_F]
      rw [bx_uu]
      rfl
    rw [hcl, nx2_ov, a1]
    exact ⟨_, _, hs, rfl, by rw [hval]; exact zI_n _⟩
