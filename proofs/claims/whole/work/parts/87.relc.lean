/-! objects and segments, step by step -/
theorem AI.sn {vc rc sn : Nat} {srs : Nat → Nat} {VT : Nat → VRec} {RT : Nat → RRec} (h : AI vc rc sn srs VT RT) : AI vc rc (sn + 1) srs VT RT := ⟨h.1, h.2.1, h.2.2.1, fun i hi => ⟨Nat.le_succ_of_le (h.2.2.2 i hi).1, (h.2.2.2 i hi).2⟩⟩
theorem Rel.live {cI cZ : ClassId} {C : CT} {VT : Nat → VRec} {RT : Nat → RRec} {M : MT} (h : Rel cI cZ C VT RT M) {q : Nat} (hq : q < k_sn C) : liveIn M q = k_alv C q := by
  obtain ⟨hk, hm, hB⟩ := h
  obtain ⟨p1, p2, ⟨en, esn, evn, ern, epn, enw, eg, ek, es, ed⟩, ro, rv, rr, pp⟩ := id hB
  obtain ⟨h1, h2, h3, h4, h5, h6, h7, h8, h9, h10, h11, h12, h13, h14, h15, h16⟩ := id hk
  obtain ⟨g1, g2, g3, g4, g5, g6, g7, g8, g9, g10, g11, g12, g13, g14, g15, g16, g17, g18, g19, g20⟩ := id hm
  rw [ro.live en q, ro.2.2.2.2.2.1 q hq]
theorem Rel.seen {cI cZ : ClassId} {C : CT} {VT : Nat → VRec} {RT : Nat → RRec} {M : MT} (h : Rel cI cZ C VT RT M) {q : Nat} (hq : q < 40) : seenBy M q = k_srs C q := by
  obtain ⟨hk, hm, hB⟩ := h
  obtain ⟨p1, p2, ⟨en, esn, evn, ern, epn, enw, eg, ek, es, ed⟩, ro, rv, rr, pp⟩ := id hB
  obtain ⟨h1, h2, h3, h4, h5, h6, h7, h8, h9, h10, h11, h12, h13, h14, h15, h16⟩ := id hk
  obtain ⟨g1, g2, g3, g4, g5, g6, g7, g8, g9, g10, g11, g12, g13, g14, g15, g16, g17, g18, g19, g20⟩ := id hm
  unfold seenBy
  rw [p2.2.1 q, ← evn]
  refine cnt_congr (fun v hv => ?_)
  obtain ⟨a1, _, _, _, a5⟩ := rv.1 v hv
  unfold pSeen pSe
  rw [a1, a5 q hq]
  simp
theorem Rel.stat {cI cZ : ClassId} {C : CT} {VT : Nat → VRec} {RT : Nat → RRec} {M : MT} (h : Rel cI cZ C VT RT M) {q : Nat} (hq : q < k_sn C) : stateOf M q = ssF (k_alv C) (k_srs C) q := by
  unfold stateOf ssF
  rw [h.live hq, h.seen (Nat.lt_of_lt_of_le hq h.1.2.2.1)]
theorem Rel.cof {cI cZ : ClassId} {C : CT} {VT : Nat → VRec} {RT : Nat → RRec} {M : MT} (h : Rel cI cZ C VT RT M) (x : Nat) : countOf M x = cnt (pSs (k_alv C) (k_srs C) x) (k_sn C) := by
  unfold countOf
  rw [← h.2.2.2.2.1.2.1]
  exact cnt_congr (fun q hq => by unfold pState pSs; rw [h.stat hq])
theorem rel_commit {cI cZ : ClassId} {C : CT} {VT : Nat → VRec} {RT : Nat → RRec} {M : MT} (h : Rel cI cZ C VT RT M) : commitRC C = commitR M ∧ Rel cI cZ (commitS C) VT RT (commitM M) := by
  obtain ⟨hk, hm, hB⟩ := h
  obtain ⟨p1, p2, ⟨en, esn, evn, ern, epn, enw, eg, ek, es, ed⟩, ro, rv, rr, pp⟩ := id hB
  obtain ⟨h1, h2, h3, h4, h5, h6, h7, h8, h9, h10, h11, h12, h13, h14, h15, h16⟩ := id hk
  obtain ⟨g1, g2, g3, g4, g5, g6, g7, g8, g9, g10, g11, g12, g13, g14, g15, g16, g17, g18, g19, g20⟩ := id hm
  have hnew : newOnes M = newF (k_fn C) (k_drp C) (k_n C) := by rw [ed]; exact newOnes_eq ro en
  unfold commitRC commitR commitS commitM
  rw [hnew]
  by_cases hz : newF (k_fn C) (k_drp C) (k_n C) = 0
  · rw [if_pos hz, if_pos hz, if_neg (by omega), if_neg (by omega), if_neg (by omega), hz]
    refine ⟨rfl, ⟨h1, Nat.le_refl _, h3, h4, h5, h6, h7, h8, h9, h10, h11, h12, h13, h14, h15, h16⟩, ?_, ?_⟩
    · have hdr : ∀ j, j < m_n M → m_isN M j = true → m_drp M j = true := fun j hj hi => by
        have h9' := cnt_none hz j (by omega)
        rw [ro.2.1 j] at hi
        simp at hi
        unfold pNw at h9'
        rw [← ed]
        simpa [hi.1] using h9'
      exact ⟨g1, g2, g3, g4, g5, g6, fun j => by
        rw [mk_seg, cmS_at]
        have := g7 j
        split
        · rename_i q
          rw [if_pos (hdr j q.1 q.2)]
          omega
        · exact this, g8, g9, g10, g11, g12, g13, g14, g15, g16, g17, g18, g19, g20⟩
    · rw [mkC_n, mkC_fn, mkC_sn, mkC_vc, mkC_rc, mkC_pc, mkC_nw, mkC_grp, mkC_key, mkC_srt, mkC_home, mkC_drp, mkC_kin, mkC_alv, mkC_srs, mkC_pg, mkC_vq, mkC_rq, mkC_L, mkC_F]
      rw [mk_n, mk_sn, mk_vn, mk_rn, mk_pn, mk_nw, mk_grp, mk_key, mk_srt, mk_drp, mk_seg, mk_isN, mk_st, mk_has, mk_sees, mk_vo, mk_ko, mk_sl, mk_sc, mk_kp, mk_en, mk_sd, mk_go, mk_isC, mk_isG, mk_ov, mk_la, mk_pg]
      rw [Nat.add_zero]
      exact ⟨p1, p2, ⟨en, esn, evn, ern, epn, enw, eg, ek, es, ed⟩, ro.commit0 en (by rw [← ed]; exact hz), rv, rr, pp⟩
  · rw [if_neg hz, if_neg hz]
    by_cases hs : 40 ≤ k_sn C
    · rw [if_pos hs, if_pos hs, if_pos (by omega), if_pos (by omega)]
      exact ⟨rfl, hk, hm, hB⟩
    · rw [if_neg hs, if_neg hs, if_neg (by omega), if_neg (by omega), if_pos (by omega)]
      refine ⟨rfl, ?_, ?_, ?_⟩
      · exact ⟨h1, Nat.le_refl _, by show k_sn C + 1 ≤ 40; omega, h4, h5, h6, h7, h8, fun j => by rw [mkC_home, snH_at]; have := h9 j; split <;> omega, h10, up_lt h11 (Nat.lt_of_le_of_lt (cnt_le _ _) (by omega)), h12, h13, h14, h15, h16⟩
      · exact ⟨g1, by show m_sn M + 1 ≤ 40; omega, g3, g4, g5, g6, fun j => by rw [mk_seg, cmS_at]; have := g7 j; split <;> (try split) <;> omega, g8, g9, g10, g11, g12, g13, g14, g15, g16, g17, g18, g19, g20⟩
      · rw [mkC_n, mkC_fn, mkC_sn, mkC_vc, mkC_rc, mkC_pc, mkC_nw, mkC_grp, mkC_key, mkC_srt, mkC_home, mkC_drp, mkC_kin, mkC_alv, mkC_srs, mkC_pg, mkC_vq, mkC_rq, mkC_L, mkC_F]
        rw [mk_n, mk_sn, mk_vn, mk_rn, mk_pn, mk_nw, mk_grp, mk_key, mk_srt, mk_drp, mk_seg, mk_isN, mk_st, mk_has, mk_sees, mk_vo, mk_ko, mk_sl, mk_sc, mk_kp, mk_en, mk_sd, mk_go, mk_isC, mk_isG, mk_ov, mk_la, mk_pg]
        have := ro.commit1 en esn
        rw [← ed] at this
        rw [← ed]
        exact ⟨p1, p2.sn, ⟨en, by rw [esn], evn, ern, epn, enw, eg, ek, es, rfl⟩, this, rv, rr, pp⟩
theorem rel_merge {cI cZ : ClassId} {C : CT} {VT : Nat → VRec} {RT : Nat → RRec} {M : MT} (h : Rel cI cZ C VT RT M) (x : Int32) : mergeRC C x = mergeR M x ∧ Rel cI cZ (mergeS C x) VT RT (mergeM M x) := by
  obtain ⟨hk, hm, hB⟩ := h
  obtain ⟨p1, p2, ⟨en, esn, evn, ern, epn, enw, eg, ek, es, ed⟩, ro, rv, rr, pp⟩ := id hB
  obtain ⟨h1, h2, h3, h4, h5, h6, h7, h8, h9, h10, h11, h12, h13, h14, h15, h16⟩ := id hk
  obtain ⟨g1, g2, g3, g4, g5, g6, g7, g8, g9, g10, g11, g12, g13, g14, g15, g16, g17, g18, g19, g20⟩ := id hm
  have hcb : cnt (pBel M x) (m_sn M) = cnt (beF (k_alv C) x) (k_sn C) := by rw [← esn]; exact cnt_congr (fun q hq => ro.bel en x hq)
  have hmv : (mvL (k_home C) (k_drp C) (k_alv C) x (k_sn C) (k_n C)).1 = sumB (pBel M x) (liveIn M) (m_sn M) := by rw [(mvL_at _).1, ← esn, ed]; exact ro.moved en x
  unfold mergeRC mergeR mergeS mergeM
  rw [hcb]
  by_cases hz : cnt (beF (k_alv C) x) (k_sn C) < 2
  · rw [if_pos hz, if_pos hz, if_pos hz, if_pos hz]
    exact ⟨rfl, hk, hm, hB⟩
  · rw [if_neg hz, if_neg hz, if_neg hz, if_neg hz]
    by_cases hs : 40 ≤ k_sn C
    · rw [if_pos hs, if_pos hs, if_pos (by omega), if_pos (by omega)]
      exact ⟨rfl, hk, hm, hB⟩
    · rw [if_neg hs, if_neg hs, if_neg (by omega), if_neg (by omega)]
      have hm9 := mvL_le (k_home C) (k_drp C) (k_alv C) x (k_sn C) (k_n C)
      refine ⟨by rw [hmv], ?_, ?_, ?_⟩
      · exact ⟨h1, h2, by show k_sn C + 1 ≤ 40; omega, h4, h5, h6, h7, h8, fun j => by rw [mkC_home, (mvL_at _).2]; have := h9 j; split <;> omega, h10, up_lt (ebA_lt (by omega) h11 _) (by omega), h12, h13, h14, h15, h16⟩
      · exact ⟨g1, by show m_sn M + 1 ≤ 40; omega, g3, g4, g5, g6, mgO_in hm (by omega) x _, g8, g9, g10, g11, g12, g13, g14, g15, g16, g17, g18, g19, g20⟩
      · rw [mkC_n, mkC_fn, mkC_sn, mkC_vc, mkC_rc, mkC_pc, mkC_nw, mkC_grp, mkC_key, mkC_srt, mkC_home, mkC_drp, mkC_kin, mkC_alv, mkC_srs, mkC_pg, mkC_vq, mkC_rq, mkC_L, mkC_F]
        rw [mk_n, mk_sn, mk_vn, mk_rn, mk_pn, mk_nw, mk_grp, mk_key, mk_srt, mk_drp, mk_seg, mk_isN, mk_st, mk_has, mk_sees, mk_vo, mk_ko, mk_sl, mk_sc, mk_kp, mk_en, mk_sd, mk_go, mk_isC, mk_isG, mk_ov, mk_la, mk_pg]
        have := ro.merge en esn x
        rw [← ed] at this
        rw [← ed, show mgO M x (m_sn M) = mgO M x (k_sn C) by rw [esn]]
        exact ⟨p1, p2.sn, ⟨en, by rw [esn], evn, ern, epn, enw, eg, ek, es, rfl⟩, this, rv, rr, pp⟩
theorem nIx {i n : Nat} (h : i < n) (hn : n ≤ 100000) : (nI i).toInt = (i : Int) ∧ ix (nI i) = i := by
  have hz := nI_z (n := i) (by omega)
  exact ⟨hz, by unfold ix; rw [hz]; omega⟩
theorem rel_object {cI cZ : ClassId} {C : CT} {VT : Nat → VRec} {RT : Nat → RRec} {M : MT} (h : Rel cI cZ C VT RT M) {i w : Nat} (hi : i < k_n C) (hw : w < 5) : objT M (nI i) (nI w) = 0 ∧ objR M (nI i) (nI w) = objC C i w := by
  obtain ⟨hk, hm, hB⟩ := h
  obtain ⟨p1, p2, ⟨en, esn, evn, ern, epn, enw, eg, ek, es, ed⟩, ro, rv, rr, pp⟩ := id hB
  obtain ⟨h1, h2, h3, h4, h5, h6, h7, h8, h9, h10, h11, h12, h13, h14, h15, h16⟩ := id hk
  obtain ⟨g1, g2, g3, g4, g5, g6, g7, g8, g9, g10, g11, g12, g13, g14, g15, g16, g17, g18, g19, g20⟩ := id hm
  obtain ⟨z1, x1⟩ := nIx hi (by omega)
  obtain ⟨z2, x2⟩ := nIx hw (by omega)
  unfold objT objR objC
  rw [if_neg (by rw [z1, z2]; omega), if_neg (by rw [z1, z2]; omega), x1, z2, eg, ek, es, ed, ro.1 i hi]
  refine ⟨rfl, ?_⟩
  rcases (show w = 0 ∨ w = 1 ∨ w = 2 ∨ w = 3 ∨ w = 4 by omega) with rfl | rfl | rfl | rfl | rfl <;> rfl
theorem rel_segment {cI cZ : ClassId} {C : CT} {VT : Nat → VRec} {RT : Nat → RRec} {M : MT} (h : Rel cI cZ C VT RT M) {i w : Nat} (hi : i < k_sn C) (hw : w < 3) : segT M (nI i) (nI w) = 0 ∧ segR M (nI i) (nI w) = nI (segC C i w) := by
  have hl := h.live hi
  have hs := h.seen (q := i) (Nat.lt_of_lt_of_le hi h.1.2.2.1)
  have ht := h.stat hi
  obtain ⟨hk, hm, hB⟩ := h
  obtain ⟨p1, p2, ⟨en, esn, evn, ern, epn, enw, eg, ek, es, ed⟩, ro, rv, rr, pp⟩ := id hB
  obtain ⟨h1, h2, h3, h4, h5, h6, h7, h8, h9, h10, h11, h12, h13, h14, h15, h16⟩ := id hk
  obtain ⟨g1, g2, g3, g4, g5, g6, g7, g8, g9, g10, g11, g12, g13, g14, g15, g16, g17, g18, g19, g20⟩ := id hm
  obtain ⟨z1, x1⟩ := nIx hi (by omega)
  obtain ⟨z2, x2⟩ := nIx hw (by omega)
  unfold segT segR segC
  rw [if_neg (by rw [z1, z2]; omega), if_neg (by rw [z1, z2]; omega), x1, z2, hl, hs, ht]
  refine ⟨rfl, ?_⟩
  rcases (show w = 0 ∨ w = 1 ∨ w = 2 by omega) with rfl | rfl | rfl <;> rfl
