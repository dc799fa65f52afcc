/-! a view settles: it ends when it is let go and read no more -/
theorem usK_cnt {alv : Nat → Nat} {sf : Nat → Bool} {srs : Nat → Nat} {sn : Nat} : ∀ n, n ≤ sn → (∀ i, i < n → sf i = true → 0 < srs i) → cnt (pSs alv (usS sf srs n) 2) sn = cnt (pSs alv srs 2) sn + usK alv sf srs n := by
  intro n
  induction n with
  | zero => intro _ _; rfl
  | succ n ih =>
    intro hn hp
    have h := ih (by omega) (fun i hi => hp i (by omega))
    simp only [usK]
    by_cases hs : sf n = true
    · have e1 : usS sf srs (n + 1) = va_up (usS sf srs n) n (usS sf srs n n - 1) := by simp only [usS]; rw [if_pos hs]
      have hpn := hp n (by omega) hs
      have en : usS sf srs n n = srs n := (usS_le n n).2 (Nat.le_refl _)
      have hold : pSs alv (usS sf srs n) 2 n = false := by
        unfold pSs ssF; rw [en]
        by_cases a : 0 < alv n
        · simp [a]
        · simp [a, hpn]
      have hoth : ∀ k, k < sn → k ≠ n → pSs alv (usS sf srs (n + 1)) 2 k = pSs alv (usS sf srs n) 2 k := fun k _ e => by unfold pSs ssF; rw [e1, va_up_ne _ _ e]
      by_cases hf : ssF alv (usS sf srs (n + 1)) n = 2
      · rw [if_pos (by rw [hs, Bool.true_and]; exact decide_eq_true hf), ← Nat.add_assoc, ← h]
        exact cnt_dec (show n < sn by omega) (decide_eq_true hf) hold hoth
      · rw [if_neg (by rw [hs, Bool.true_and]; exact fun z => hf (of_decide_eq_true z)), Nat.add_zero (usK alv sf srs n), ← h]
        refine cnt_congr (fun k hk => ?_)
        by_cases e : k = n
        · rw [e, hold]; exact decide_eq_false hf
        · exact hoth k hk e
    · have e1 : usS sf srs (n + 1) = usS sf srs n := by simp only [usS]; rw [if_neg hs]
      have hs' : sf n = false := by simpa using hs
      rw [e1, hs', Bool.false_and, if_neg (by decide), Nat.add_zero]
      exact h
/-- all holds, but a view may be let go and idle -/
def AI0 (vc rc sn : Nat) (srs : Nat → Nat) (VT : Nat → VRec) (RT : Nat → RRec) (v : Nat) : Prop := (∀ k, k < vc → (VT k).r = cnt (pRd RT k) rc) ∧ (∀ s, srs s = cnt (pSe VT s) vc) ∧ (∀ j, j < rc → (RT j).v < vc) ∧ (∀ k, k < vc → k ≠ v → (VT k).sn ≤ sn ∧ ((VT k).st = 1 → 0 < (VT k).r) ∧ ((VT k).st = 2 → (VT k).r = 0 ∧ (VT k).c = 0 ∧ (VT k).g = 0) ∧ ((VT k).st ≠ 2 → (VT k).c = (VT k).n) ∧ (VT k).st ≤ 2) ∧ v < vc ∧ (VT v).sn ≤ sn ∧ (VT v).st < 2 ∧ (VT v).c = (VT v).n
theorem AI0.ei {vc rc sn : Nat} {srs : Nat → Nat} {VT : Nat → VRec} {RT : Nat → RRec} {v : Nat} (h : AI0 vc rc sn srs VT RT v) : AI vc rc sn (eiS (VT v) srs) (va_up VT v (eiV (VT v))) RT := by
  obtain ⟨h1, h2, h3, h4, h5, h6, h7, h8⟩ := h
  have e := va_up_same VT v
  exact AI.idle h5 (VT v) (by rw [e]; exact h1) (by rw [e]; exact h2) h3 h4 h6 h7 h8
def RelW (cI cZ : ClassId) (v : Nat) (n : Nat) (fn : Nat) (sn : Nat) (vc : Nat) (rc : Nat) (pc : Nat) (nw : Nat) (grp : Nat → Int64) (key : Nat → Int64) (srt : Nat → Int64) (home : Nat → Int) (drp : Nat → Bool) (kin : Nat → Nat) (alv : Nat → Nat) (srs : Nat → Nat) (pg : Nat → Nat) (vq : Nat → Option Nat) (rq : Nat → Option Nat) (L : List Nat) (F : Nat → va_E) (VT : Nat → VRec) (RT : Nat → RRec) (mn : Nat) (msn : Nat) (mvn : Nat) (mrn : Nat) (mpn : Nat) (mnw : Nat) (mgrp : Nat → Int64) (mkey : Nat → Int64) (msrt : Nat → Int64) (mdrp : Nat → Bool) (mseg : Nat → Int) (misN : Nat → Bool) (mst : Nat → Nat) (mhas : Nat → Bool) (msees : Nat → Bool) (mvo : Nat → Nat) (mko : Nat → Nat) (msl : Nat → Nat) (msc : Nat → Nat) (mkp : Nat → Nat) (men : Nat → Nat) (msd : Nat → Int64) (mgo : Nat → Int64) (misC : Nat → Bool) (misG : Nat → Bool) (mov : Nat → Bool) (mla : Nat → Int) (mpg : Nat → Nat) : Prop :=
  PQ cI cZ vc rc vq rq L F VT RT ∧ AI0 vc rc sn srs VT RT v ∧ (n = mn ∧ sn = msn ∧ vc = mvn ∧ rc = mrn ∧ pc = mpn ∧ nw = mnw ∧ grp = mgrp ∧ key = mkey ∧ srt = msrt ∧ drp = mdrp) ∧ RelO n fn sn home alv kin mgrp mdrp mseg misN ∧ RelV n vc kin VT mst mhas msees ∧ RelR n rc mgrp mkey msrt mhas RT mvo mko msl msc mkp men msd mgo misC misG mov mla ∧ ∀ i, i < pc → pg i = mpg i
def Rel0 (cI cZ : ClassId) (v : Nat) (C : CT) (VT : Nat → VRec) (RT : Nat → RRec) (M : MT) : Prop := kOk C ∧ mOk M ∧ RelW cI cZ v (k_n C) (k_fn C) (k_sn C) (k_vc C) (k_rc C) (k_pc C) (k_nw C) (k_grp C) (k_key C) (k_srt C) (k_home C) (k_drp C) (k_kin C) (k_alv C) (k_srs C) (k_pg C) (k_vq C) (k_rq C) (k_L C) (k_F C) VT RT (m_n M) (m_sn M) (m_vn M) (m_rn M) (m_pn M) (m_nw M) (m_grp M) (m_key M) (m_srt M) (m_drp M) (m_seg M) (m_isN M) (m_st M) (m_has M) (m_sees M) (m_vo M) (m_ko M) (m_sl M) (m_sc M) (m_kp M) (m_en M) (m_sd M) (m_go M) (m_isC M) (m_isG M) (m_ov M) (m_la M) (m_pg M)
theorem clrH_at (M : MT) (v : Nat) : ∀ i k, clrH M v i k = if 300 * v ≤ k ∧ k < 300 * v + i then false else m_has M k := by
  intro i
  induction i with
  | zero => intro k; rw [if_neg (by omega)]; rfl
  | succ i ih =>
    intro k
    simp only [clrH]
    by_cases e : k = 300 * v + i
    · rw [e, va_up_self, if_pos (by omega)]
    · rw [va_up_ne _ _ e, ih]
      by_cases f : 300 * v ≤ k ∧ k < 300 * v + i
      · rw [if_pos f, if_pos (by omega)]
      · rw [if_neg f, if_neg (by omega)]
theorem gcF_none {kin : Nat → Nat} {P : Nat → Bool} {n : Nat} (h : ∀ o, o < n → P o = false) : gcF kin P n = 0 := by
  unfold gcF
  refine cnt_zero (fun k _ => ?_)
  cases e : anyB (fun o => P o && decide (kin o = k)) n with
  | false => rfl
  | true =>
    obtain ⟨o, ho, q⟩ := anyB_iff.mp e
    rw [h o ho, Bool.false_and] at q
    exact absurd q (by decide)
theorem held_iff {n rc : Nat} {grp key srt : Nat → Int64} {has : Nat → Bool} {RT : Nat → RRec} {M : MT} {sl sc kp en ko : Nat → Nat} {sd go : Nat → Int64} {isC isG : Nat → Bool} {la : Nat → Int} (h : RelR n rc grp key srt has RT (m_vo M) ko sl sc kp en sd go isC isG (m_ov M) la) (hr : rc = m_rn M) (v : Nat) : heldB M v = true ↔ 0 < cnt (pRd RT v) rc := by
  unfold heldB
  rw [← hr, anyB_congr (Q := pRd RT v) (fun j hj => by unfold pHeld pRd; rw [(h.1 j hj).1, (h.1 j hj).2.2.1])]
  refine ⟨fun q => ?_, fun q => ?_⟩
  · obtain ⟨j, hj, e⟩ := anyB_iff.mp q; exact cnt_pos hj e
  · cases e : anyB (pRd RT v) rc with
    | true => rfl
    | false =>
      have : cnt (pRd RT v) rc = 0 := cnt_zero (fun j hj => by
        cases z : pRd RT v j with
        | false => rfl
        | true => rw [anyB_iff.mpr ⟨j, hj, z⟩] at e; exact absurd e (by decide))
      omega
theorem rel_settle {cI cZ : ClassId} {C : CT} {VT : Nat → VRec} {RT : Nat → RRec} {M : MT} {v : Nat} (h : Rel0 cI cZ v C VT RT M) : Rel cI cZ (eiM C (VT v).q (VT v).hs (VT v).se (VT v).c (VT v).g (VT v).st (VT v).r (VT v).sn (VT v).sf) (va_up VT v (eiV (VT v))) RT (settleM M v) := by
  obtain ⟨hk, hm, hB⟩ := h
  obtain ⟨p1, p2, ⟨en, esn, evn, ern, epn, enw, eg, ek, es, ed⟩, ro, rv, rr, pp⟩ := id hB
  obtain ⟨h1, h2, h3, h4, h5, h6, h7, h8, h9, h10, h11, h12, h13, h14, h15, h16⟩ := id hk
  obtain ⟨g1, g2, g3, g4, g5, g6, g7, g8, g9, g10, g11, g12, g13, g14, g15, g16, g17, g18, g19, g20⟩ := id hm
  have hai := p2.ei
  obtain ⟨i1, i2, i3, i4, i5, i6, i7, i8⟩ := id p2
  obtain ⟨v1, v2, v3, v4, v5⟩ := rv.1 v i5
  have hheld := held_iff rr ern v
  rw [← i1 v i5] at hheld
  unfold eiM settleM
  by_cases hz : (VT v).st = 1 ∧ (VT v).r = 0
  · rw [if_pos hz, if_neg (by rw [v1]; omega), if_neg (fun z => by have := hheld.mp z; omega)]
    have e1 : eiV (VT v) = (VT v).idle := if_pos hz
    have e2 : eiS (VT v) (k_srs C) = usS (VT v).sf (k_srs C) (VT v).sn := if_pos hz
    rw [e1] at hai ⊢
    rw [e2] at hai
    have hd : ∀ k, clrH M v 300 k = if 300 * v ≤ k ∧ k < 300 * v + 300 then false else m_has M k := clrH_at M v 300
    refine ⟨?_, ?_, ?_⟩
    · exact ⟨h1, h2, h3, h4, h5, h6, h7, h8, h9, h10, h11, fun j => Nat.lt_of_le_of_lt (usS_le _ j).1 (h12 j), h13, h14, h15, h16⟩
    · exact ⟨g1, g2, g3, g4, g5, g6, g7, g8, up_lt g9 (by omega), g10, g11, g12, g13, g14, g15, g16, g17, g18, g19, g20⟩
    · rw [mkC_n, mkC_fn, mkC_sn, mkC_vc, mkC_rc, mkC_pc, mkC_nw, mkC_grp, mkC_key, mkC_srt, mkC_home, mkC_drp, mkC_kin, mkC_alv, mkC_srs, mkC_pg, mkC_vq, mkC_rq, mkC_L, mkC_F]
      rw [mk_n, mk_sn, mk_vn, mk_rn, mk_pn, mk_nw, mk_grp, mk_key, mk_srt, mk_drp, mk_seg, mk_isN, mk_st, mk_has, mk_sees, mk_vo, mk_ko, mk_sl, mk_sc, mk_kp, mk_en, mk_sd, mk_go, mk_isC, mk_isG, mk_ov, mk_la, mk_pg]
      refine ⟨?_, hai, ⟨en, esn, evn, ern, epn, enw, eg, ek, es, ed⟩, ro, ⟨fun w hw => ?_, fun w hw1 hw2 => ?_⟩, ?_, pp⟩
      · obtain ⟨_, _, _, _, _, b2, b3, b4, b5, b6, b7⟩ := p1.1 v i5
        exact p1.setV i5 (V := (VT v).idle) rfl rfl rfl rfl rfl rfl rfl (Nat.zero_le _) (Nat.zero_le _) (Nat.le_refl _) b5
      · by_cases e : w = v
        · subst e
          rw [va_up_self, va_up_self]
          have hf : ∀ o, o < 300 → clrH M w 300 (300 * w + o) = false := fun o ho => by rw [hd, if_pos (by omega)]
          refine ⟨rfl, ⟨fun i hi => absurd (show i < 0 from hi) (Nat.not_lt_zero _), fun i j _ hj => absurd (show j < 0 from hj) (Nat.not_lt_zero _), fun o ho hp => ?_⟩, ?_, fun o _ ho => hf o ho, v5⟩
          · have hp' : clrH M w 300 (300 * w + o) = true := hp
            rw [hf o (by omega)] at hp'; exact absurd hp' (by decide)
          · rw [gcF_none (fun o ho => hf o (by omega))]; rfl
        · exact RelV.has (has := m_has M) (has' := clrH M v 300) (VT := VT) (VT' := va_up VT v (VT v).idle) (st := m_st M) (st' := va_up (m_st M) v 2) (sees := m_sees M) (sees' := m_sees M) h1 (fun o ho => by rw [hd, if_neg (by omega)]) (fun _ _ => rfl) (va_up_ne _ _ e) (va_up_ne _ _ e) (rv.1 w hw)
      · obtain ⟨z1, z2, z3⟩ := rv.2 w hw1 hw2
        refine ⟨by rw [va_up_ne _ _ (show w ≠ v by omega)]; exact z1, fun o ho => ?_, z3⟩
        rw [hd]; split
        · rfl
        · exact z2 o ho
      · refine rr.has (fun j hj he o ho => ?_)
        rw [hd, if_neg]
        intro z
        have hvj : (RT j).v = v := by omega
        have h0 := i1 v i5
        have := cnt_pos (P := pRd RT v) hj (by unfold pRd; simp [hvj, he])
        omega
  · rw [if_neg hz]
    have e1 : eiV (VT v) = VT v := if_neg hz
    have e2 : eiS (VT v) (k_srs C) = k_srs C := if_neg hz
    rw [e1, va_up_same] at hai
    rw [e2] at hai
    rw [e1, va_up_same]
    by_cases h0 : (VT v).st = 0
    · rw [if_pos (by rw [v1]; exact h0)]
      exact ⟨hk, hm, p1, hai, ⟨en, esn, evn, ern, epn, enw, eg, ek, es, ed⟩, ro, rv, rr, pp⟩
    · have hst1 : (VT v).st = 1 := by omega
      rw [if_neg (by rw [v1]; exact h0), if_pos (hheld.mpr (by omega))]
      have e9 : va_up (m_st M) v 1 = m_st M := by rw [← hst1, ← v1, va_up_same]
      rw [e9]
      refine ⟨hk, ?_, ?_⟩
      · exact ⟨g1, g2, g3, g4, g5, g6, g7, g8, g9, g10, g11, g12, g13, g14, g15, g16, g17, g18, g19, g20⟩
      · rw [mk_n, mk_sn, mk_vn, mk_rn, mk_pn, mk_nw, mk_grp, mk_key, mk_srt, mk_drp, mk_seg, mk_isN, mk_st, mk_has, mk_sees, mk_vo, mk_ko, mk_sl, mk_sc, mk_kp, mk_en, mk_sd, mk_go, mk_isC, mk_isG, mk_ov, mk_la, mk_pg]
        exact ⟨p1, hai, ⟨en, esn, evn, ern, epn, enw, eg, ek, es, ed⟩, ro, rv, rr, pp⟩
theorem eiM_alv {C : CT} {v hs se c g st r n : Nat} {sf : Nat → Bool} : k_alv (eiM C v hs se c g st r n sf) = k_alv C ∧ k_sn (eiM C v hs se c g st r n sf) = k_sn C ∧ k_srs (eiM C v hs se c g st r n sf) = (if st = 1 ∧ r = 0 then usS sf (k_srs C) n else k_srs C) := by
  unfold eiM; split
  · exact ⟨mkC_alv, mkC_sn, mkC_srs⟩
  · exact ⟨rfl, rfl, rfl⟩
/-- what a settling answers -/
theorem settle_R {cI cZ : ClassId} {C : CT} {VT' : Nat → VRec} {RT' : Nat → RRec} {M M' : MT} {v hs se c g st r n : Nat} {sf : Nat → Bool} (h : Rel cI cZ (eiM C v hs se c g st r n sf) VT' RT' M') (hc : countOf M 2 = cnt (pSs (k_alv C) (k_srs C) 2) (k_sn C)) (hn : n ≤ k_sn C) (hp : st ≠ 2 → ∀ i, i < n → sf i = true → 0 < k_srs C i) : zI (((countOf M' 2 : Nat) : Int) - ((countOf M 2 : Nat) : Int)) = nI (eiR C st r n sf) := by
  obtain ⟨e1, e2, e3⟩ := eiM_alv (C := C) (v := v) (hs := hs) (se := se) (c := c) (g := g) (st := st) (r := r) (n := n) (sf := sf)
  rw [h.cof 2, hc, e1, e2, e3]
  unfold eiR
  by_cases hz : st = 1 ∧ r = 0
  · rw [if_pos hz, if_pos hz, usK_cnt n hn (hp (by omega))]
    rw [← zI_n]
    congr 1
    omega
  · rw [if_neg hz, if_neg hz]
    rw [← zI_n]
    congr 1
    omega
