/-! a reader more -/
def VRec.more (X : VRec) (b : Bool) : VRec := vMk X.q X.hs X.se X.c X.g X.st (if b then X.r else X.r + 1) X.n X.sn X.f X.sf
theorem PQ.skip {cI cZ : ClassId} {vc rc : Nat} {vq rq : Nat → Option Nat} {L L0 : List Nat} {F F0 : Nat → va_E} {VT : Nat → VRec} {RT : Nat → RRec} (h : PQ cI cZ vc rc vq rq L F VT RT) (h0 : PQ cI cZ vc rc vq rq L0 F0 VT RT) {q : Nat} (hq : q ∉ L0) (e : va_E) : PQ cI cZ vc rc vq rq L (va_up F q e) VT RT := by
  refine ⟨fun i hi => ?_, fun j hj => ?_, h.2.2.1, h.2.2.2⟩
  · obtain ⟨b0, b1, b2, b3, b4⟩ := h.1 i hi
    obtain ⟨_, c1, c2, c3, _⟩ := h0.1 i hi
    exact ⟨b0, isE.keep b1 (fun z => hq (z ▸ c1.1)), isE.keep b2 (fun z => hq (z ▸ c2.1)), isE.keep b3 (fun z => hq (z ▸ c3.1)), b4⟩
  · obtain ⟨b0, b1, b2, b3⟩ := h.2.1 j hj
    obtain ⟨_, c1, c2, _⟩ := h0.2.1 j hj
    exact ⟨b0, isE.keep b1 (fun z => hq (z ▸ c1.1)), isE.keep b2 (fun z => hq (z ▸ c2.1)), b3⟩
def rdM (cI : ClassId) (B : CT) (VT : Nat → VRec) (i q1 q2 : Nat) (R : RRec) : CT := (mkC (k_ra B) (k_rb B) (k_vc B) (k_rc B + 1) (k_pc B) (k_nw B) (k_n B) (k_fn B) (k_sn B) (k_kc B) (k_grp B) (k_key B) (k_srt B) (k_wt B) (k_home B) (k_drp B) (k_met B) (k_kin B) (k_alv B) (k_srs B) (k_row B) (k_sp B) (k_kis B) (k_pg B) (k_vq B) (va_up (k_rq B) (k_rc B) (some (q1))) ((k_L B ++ [q1]) ++ [q2]) (va_up (va_up (va_up (va_up (k_F B) (q1) (.inr (1, [.null, .null, .int (bI (false)), .int (nI (0)), .int (nI (0)), .int (nI (0)), .int (bI (false))]))) (q2) (.inl (cI, R.n, .inl (fun j => nI (R.f j))))) (q1) (rE (VT i).q R)) ((VT i).q) (vE ((VT i).more R.ed))))
def nwR (M : MT) (i kd : Nat) (sd : Int64) (cu : Bool) (isG' ov' : Nat → Bool) (go' : Nat → Int64) (sl' sc' kp' en' : Nat → Nat) : MT := (mkM (m_n M) (m_sn M) (m_vn M) (m_rn M + 1) (m_pn M) (m_nw M) (m_grp M) (m_key M) (m_srt M) (va_up (m_sd M) (m_rn M) sd) (go') (m_seg M) (va_up (m_la M) (m_rn M) (-1)) (m_isN M) (m_drp M) (m_has M) (m_sees M) (va_up (m_isC M) (m_rn M) cu) (isG') (ov') (m_st M) (va_up (m_vo M) (m_rn M) i) (va_up (m_ko M) (m_rn M) kd) (sl') (sc') (kp') (en') (m_pg M))
theorem rel_newR {cI cZ : ClassId} {B : CT} {VT : Nat → VRec} {RT : Nat → RRec} {M : MT} (h : Rel cI cZ B VT RT M) {i q1 q2 kd : Nat} {sd : Int64} {R : RRec} {isG' ov' : Nat → Bool} {go' : Nat → Int64} {sl' sc' kp' en' : Nat → Nat} (hi : i < k_vc B) (hst : (VT i).st = 0) (hrc : k_rc B < 60) (f1 : q1 ∉ k_L B) (f2 : q2 ∉ k_L B ++ [q1]) (eq : R.q = q1) (ev : R.v = i) (ehs : R.hs = q2) (egv : R.gv = 0) (hn : R.n ≤ 300) (hkp : R.kp ≤ 1000) (hen : R.en ≤ 2000000000) (hf : ∀ j, R.f j < 300)
    (hm' : mOk (nwR M i kd sd R.cu isG' ov' go' sl' sc' kp' en')) (hG : ∀ j, j ≠ m_rn M → isG' j = m_isG M j ∧ ov' j = m_ov M j ∧ go' j = m_go M j ∧ sl' j = m_sl M j ∧ sc' j = m_sc M j ∧ kp' j = m_kp M j ∧ en' j = m_en M j) (ho : ov' (m_rn M) = R.ed) (hkc : R.cu = true → kp' (m_rn M) = R.kp ∧ en' (m_rn M) = R.en)
    (hE : R.ed = false → Enu (ahF (m_srt M) (m_key M) kd sd) (folP (m_in M i) (m_grp M) (m_key M) (isG' (m_rn M)) (go' (m_rn M)) (if R.cu then sl' (m_rn M) else 0) (sc' (m_rn M))) (m_n M) R.f R.n) (hne : R.cu = false → R.ed = false → 0 < R.n) :
    Rel cI cZ (rdM cI B VT i q1 q2 R) (va_up VT i ((VT i).more R.ed)) (va_up RT (k_rc B) R) (nwR M i kd sd R.cu isG' ov' go' sl' sc' kp' en') := by
  have hr60 : (VT i).r ≤ k_rc B := by rw [h.2.2.2.1.1 i hi]; exact cnt_le _ _
  obtain ⟨hk, hm, hB⟩ := h
  obtain ⟨p1, p2, ⟨en, esn, evn, ern, epn, enw, eg, ek, es, ed⟩, ro, rv, rr, pp⟩ := id hB
  obtain ⟨h1, h2, h3, h4, h5, h6, h7, h8, h9, h10, h11, h12, h13, h14, h15, h16⟩ := id hk
  obtain ⟨g1, g2, g3, g4, g5, g6, g7, g8, g9, g10, g11, g12, g13, g14, g15, g16, g17, g18, g19, g20⟩ := id hm
  obtain ⟨i1, i2, i3, i4⟩ := id p2
  obtain ⟨_, _, _, _, c1, c2, c3, c4, c5, c6, c7⟩ := p1.1 i hi
  have hVr : ((VT i).more R.ed).r ≤ 60 := by show (if R.ed then (VT i).r else (VT i).r + 1) ≤ 60; split <;> omega
  refine ⟨?_, hm', ?_⟩
  · unfold rdM; exact ⟨h1, h2, h3, h4, hrc, h6, h7, h8, h9, h10, h11, h12, h13, h14, h15, h16⟩
  · unfold rdM nwR
    rw [mkC_n, mkC_fn, mkC_sn, mkC_vc, mkC_rc, mkC_pc, mkC_nw, mkC_grp, mkC_key, mkC_srt, mkC_home, mkC_drp, mkC_kin, mkC_alv, mkC_srs, mkC_pg, mkC_vq, mkC_rq, mkC_L, mkC_F]
    rw [mk_n, mk_sn, mk_vn, mk_rn, mk_pn, mk_nw, mk_grp, mk_key, mk_srt, mk_drp, mk_seg, mk_isN, mk_st, mk_has, mk_sees, mk_vo, mk_ko, mk_sl, mk_sc, mk_kp, mk_en, mk_sd, mk_go, mk_isC, mk_isG, mk_ov, mk_la, mk_pg]
    have nq : q1 ≠ q2 := fun e => f2 (by rw [← e]; simp)
    have f2' : q2 ∉ k_L B := fun z => f2 (List.mem_append_left _ z)
    have hvq : (VT i).q ∈ k_L B := (p1.1 i hi).2.1.1
    have nv1 : (VT i).q ≠ q1 := fun e => f1 (e ▸ hvq)
    have nv2 : (VT i).q ≠ q2 := fun e => f2' (e ▸ hvq)
    refine ⟨?_, ⟨fun k hk9 => ?_, fun s => ?_, fun k hk9 => ?_, fun k hk9 => ?_⟩, ⟨en, esn, evn, by rw [ern], epn, enw, eg, ek, es, ed⟩, ro, ⟨fun w hw => ?_, rv.2⟩, ⟨fun k hk9 => ?_, fun k hk1 hk2 => ?_⟩, pp⟩
    · have a1 := p1.push f1 (.inr (1, [.null, .null, .int (bI (false)), .int (nI (0)), .int (nI (0)), .int (nI (0)), .int (bI (false))]))
      have a2 := a1.push f2 (.inl (cI, R.n, .inl (fun j => nI (R.f j))))
      have a3 := a2.skip p1 f1 (rE (VT i).q R)
      have a4 := a3.setV hi (V := (VT i).more R.ed) rfl rfl rfl rfl rfl rfl rfl c1 c3 c4 hVr
      have a5 := a4.addR (R := R) ⟨⟨by rw [eq]; simp, by rw [eq, va_up_ne _ _ (Ne.symm nv1), va_up_self, ev, va_up_self]; rfl⟩, ⟨by rw [ehs]; simp, by rw [ehs, va_up_ne _ _ (Ne.symm nv2), va_up_ne _ _ (Ne.symm nq), va_up_self]⟩, by omega, hn, by omega, hkp, hen, hf⟩ (fun j hj z => f1 (by rw [← eq, ← z]; exact (p1.2.1 j hj).2.1.1))
      rw [eq] at a5
      exact a5
    · simp only [cnt]
      have hold : cnt (pRd (va_up RT (k_rc B) R) k) (k_rc B) = cnt (pRd RT k) (k_rc B) := cnt_congr (fun x hx => by simp only [pRd, va_up_ne _ _ (show x ≠ k_rc B by omega)])
      rw [hold]
      have hnew : pRd (va_up RT (k_rc B) R) k (k_rc B) = (decide (i = k) && !R.ed) := by simp only [pRd, va_up_self]; rw [ev]
      rw [hnew]
      by_cases e : k = i
      · subst e
        rw [va_up_self, ← i1 k hk9]
        show (if R.ed then (VT k).r else (VT k).r + 1) = _
        cases R.ed <;> simp
      · rw [va_up_ne _ _ e, ← i1 k hk9]
        simp [Ne.symm e]
    · rw [i2 s]
      refine cnt_congr (fun k _ => ?_)
      by_cases e : k = i
      · subst e; unfold pSe; rw [va_up_self]; rfl
      · simp only [pSe, va_up_ne _ _ e]
    · by_cases e : k = k_rc B
      · subst e; rw [va_up_self, ev]; exact hi
      · rw [va_up_ne _ _ e]; exact i3 k (by omega)
    · by_cases e : k = i
      · subst e
        rw [va_up_self]
        obtain ⟨d1, d2, d3, d4, d5⟩ := i4 k hk9
        exact ⟨d1, fun z => absurd (show (VT k).st = 1 from z) (by omega), fun z => absurd (show (VT k).st = 2 from z) (by omega), d4, d5⟩
      · rw [va_up_ne _ _ e]; exact i4 k hk9
    · by_cases e : w = i
      · subst e; rw [va_up_self]; exact rv.1 w hw
      · rw [va_up_ne _ _ e]; exact rv.1 w hw
    · rw [ern] at hk9 ⊢
      by_cases e : k = m_rn M
      · subst e
        rw [va_up_self, va_up_self, va_up_self, va_up_self, va_up_self, va_up_self]
        refine ⟨ev.symm, rfl, ho, hkc, fun z => ⟨?_, by rw [egv]; rfl⟩, fun z1 z2 => by rw [egv]; exact hne z1 z2⟩
        have := hE z
        rw [← en] at this
        rw [ev]
        exact this
      · obtain ⟨w1, w2, w3, w4, w5, w6, w7⟩ := hG k e
        rw [va_up_ne _ _ e, va_up_ne _ _ e, va_up_ne _ _ e, va_up_ne _ _ e, va_up_ne _ _ e, va_up_ne _ _ e, w1, w2, w3, w4, w5, w6, w7]
        exact rr.1 k (by omega)
    · rw [ern] at hk1
      obtain ⟨w1, w2, _⟩ := hG k (by omega)
      rw [w1, w2]
      exact rr.2 k (by omega) hk2
