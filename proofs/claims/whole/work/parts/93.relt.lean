/-! pages, time, what is told -/
def tkF (M : MT) (r : Nat) (w : Int) (p : Nat → Nat) (j : Nat) : MT := (mkM (m_n M) (m_sn M) (m_vn M) (m_rn M) (j) (m_nw M) (m_grp M) (m_key M) (m_srt M) (m_sd M) (m_go M) (m_seg M) (va_up (m_la M) r w) (m_isN M) (m_drp M) (m_has M) (m_sees M) (m_isC M) (m_isG M) (m_ov M) (m_st M) (m_vo M) (m_ko M) (m_sl M) (m_sc M) (m_kp M) (m_en M) (p))
def tkU (X : MT) (r j : Nat) (q : Int) : MT := (mkM (m_n X) (m_sn X) (m_vn X) (m_rn X) (j + 1) (m_nw X) (m_grp X) (m_key X) (m_srt X) (m_sd X) (m_go X) (m_seg X) (va_up (m_la X) r q) (m_isN X) (m_drp X) (m_has X) (m_sees X) (m_isC X) (m_isG X) (m_ov X) (m_st X) (m_vo X) (m_ko X) (m_sl X) (m_sc X) (m_kp X) (m_en X) (va_up (m_pg X) j q.toNat))
theorem tkU_F (M : MT) (r j j' : Nat) (w q : Int) (p : Nat → Nat) : tkU (tkF M r w p j') r j q = tkF M r q (va_up p j q.toNat) (j + 1) := by
  unfold tkU tkF
  rw [mk_n, mk_sn, mk_vn, mk_rn, mk_nw, mk_grp, mk_key, mk_srt, mk_sd, mk_go, mk_seg, mk_la, mk_isN, mk_drp, mk_has, mk_sees, mk_isC, mk_isG, mk_ov, mk_st, mk_vo, mk_ko, mk_sl, mk_sc, mk_kp, mk_en, mk_pg, va_up_up]
theorem tkF_nxt {M : MT} {r c k j : Nat} {f : Nat → Nat} {w : Int} {p : Nat → Nat} (h : Enu (ahF (m_srt M) (m_key M) (m_ko M r) (m_sd M r)) (folP (m_in M (m_vo M r)) (m_grp M) (m_key M) (m_isG M r) (m_go M r) (if m_isC M r then m_sl M r else 0) (m_sc M r)) (m_n M) f c) (hw : w = laK f k) (hk : k ≤ c) : nextOf (tkF M r w p j) r = nxK f c k := by
  refine nextOf_at (n := m_n M) ?_ ?_ ?_ hk
  · unfold tkF; rw [mk_n]
  · unfold m_in tkF
    rw [mk_srt, mk_key, mk_ko, mk_sd, mk_has, mk_vo, mk_grp, mk_isG, mk_go, mk_isC, mk_sl, mk_sc]
    exact h
  · unfold tkF; rw [mk_la, va_up_self]; exact hw
theorem tkS_at {cI cZ : ClassId} {C : CT} {VT : Nat → VRec} {RT : Nat → RRec} {M : MT} (h : Rel cI cZ C VT RT M) {j : Nat} (hj : j < k_rc C) (he : (RT j).ed = false) : ∀ i, i ≤ (RT j).n - (RT j).gv → ∃ p, tkS M j i = tkF M j (laK (RT j).f ((RT j).gv + i)) p i ∧ (∀ k, k < i → p k = (RT j).f ((RT j).gv + k)) ∧ nextOf (tkS M j i) j = nxK (RT j).f (RT j).n ((RT j).gv + i) := by
  obtain ⟨h1, h2, h3, _⟩ := h.rd hj he
  intro i
  induction i with
  | zero =>
    intro _
    have e : tkS M j 0 = tkF M j (laK (RT j).f ((RT j).gv + 0)) (m_pg M) 0 := by unfold tkS tkF; rw [Nat.add_zero, ← h2, va_up_same]
    exact ⟨m_pg M, e, fun k hk => by omega, by rw [e]; exact tkF_nxt h1 rfl (by omega)⟩
  | succ i ih =>
    intro hi
    obtain ⟨p, e1, e2, e3⟩ := ih (by omega)
    have e : tkS M j (i + 1) = tkF M j (laK (RT j).f ((RT j).gv + (i + 1))) (va_up p i ((RT j).f ((RT j).gv + i))) (i + 1) := by
      show tkU (tkS M j i) j i (nextOf (tkS M j i) j) = _
      rw [e3, e1, tkU_F, laK_nx (by omega)]
      unfold laK
      rw [if_neg (by omega), Nat.add_sub_cancel, ← Nat.add_assoc, if_neg (by omega), Nat.add_sub_cancel]
      rfl
    refine ⟨_, e, fun k hk => ?_, by rw [e]; exact tkF_nxt h1 rfl (by omega)⟩
    by_cases z : k = i
    · subst z; rw [va_up_self]
    · rw [va_up_ne _ _ z]; exact e2 k (by omega)
theorem tkN_at {cI cZ : ClassId} {C : CT} {VT : Nat → VRec} {RT : Nat → RRec} {M : MT} (h : Rel cI cZ C VT RT M) {j : Nat} (hj : j < k_rc C) (he : (RT j).ed = false) (m : Nat) : tkN M j m = min m ((RT j).n - (RT j).gv) := by
  obtain ⟨h1, h2, h3, _⟩ := h.rd hj he
  have hp : ∀ i, i ≤ (RT j).n - (RT j).gv → tkP M j i = decide (i = (RT j).n - (RT j).gv) := fun i hi => by
    obtain ⟨_, _, _, e⟩ := tkS_at h hj he i hi
    unfold tkP
    rw [e]
    refine decide_eq_decide.mpr ?_
    unfold nxK
    split <;> omega
  unfold tkN
  rcases Nat.lt_or_ge ((RT j).n - (RT j).gv) m with g | g
  · have hle : fstB (tkP M j) m ≤ (RT j).n - (RT j).gv := by
      rcases Nat.lt_or_ge ((RT j).n - (RT j).gv) (fstB (tkP M j) m) with z | z
      · have := fstB_min z
        rw [hp _ (Nat.le_refl _)] at this
        simp at this
      · exact z
    have := fstB_is (P := tkP M j) (n := m) (by omega)
    rw [hp _ hle] at this
    simp only [decide_eq_true_eq] at this
    omega
  · have hle := fstB_le (tkP M j) m
    rcases Nat.lt_or_ge (fstB (tkP M j) m) m with z | z
    · have := fstB_is z
      rw [hp _ (by omega)] at this
      simp only [decide_eq_true_eq] at this
      omega
    · omega
theorem rel_take {cI cZ : ClassId} {C : CT} {VT : Nat → VRec} {RT : Nat → RRec} {M : MT} (h : Rel cI cZ C VT RT M) {j m k : Nat} (hj : j < k_rc C) (hm1 : 1 ≤ m) (hm2 : m ≤ 50) (hcu : (RT j).cu = true) (he : (RT j).ed = false) (hk9 : k = min m ((RT j).n - (RT j).gv)) : Rel cI cZ (takM C (RT j).q (VT (RT j).v).q (RT j).hs (RT j).cu (RT j).kp (RT j).gv (RT j).ed (RT j).f k) VT (va_up RT j (rMk (RT j).q (RT j).v (RT j).hs (RT j).cu (RT j).kp ((RT j).gv + k) (k_nw C + (RT j).kp) (RT j).ed (RT j).n (RT j).f)) (takeM M (nI j) (nI m)) ∧ takeR M (nI j) (nI m) = nI k := by
  obtain ⟨z1, x1, n1⟩ := rT_ok h hj
  obtain ⟨z2, x2⟩ := nIx (show m < 51 by omega) (by omega)
  obtain ⟨r1, r2, r3, r4, r5⟩ := h.rd hj he
  have htn := tkN_at h hj he m
  rw [← hk9] at htn
  obtain ⟨p, e1, e2, _⟩ := tkS_at h hj he k (by omega)
  have hok := ok_tkS h.2.1 j k (by omega)
  obtain ⟨hk, hm, hB⟩ := h
  obtain ⟨p1, p2, ⟨en, esn, evn, ern, epn, enw, eg, ek, es, ed⟩, ro, rv, rr, pp⟩ := id hB
  obtain ⟨h1, h2, h3, h4, h5, h6, h7, h8, h9, h10, h11, h12, h13, h14, h15, h16⟩ := id hk
  obtain ⟨g1, g2, g3, g4, g5, g6, g7, g8, g9, g10, g11, g12, g13, g14, g15, g16, g17, g18, g19, g20⟩ := id hm
  obtain ⟨a1, a2, a3, a4, a5, a6⟩ := rr.1 j hj
  have nw2 : ¬ ((nI m).toInt < 1 ∨ 50 < (nI m).toInt) := by rw [z2]; omega
  have ekp := (a4 hcu).1
  have eR : takeR M (nI j) (nI m) = nI k := by
    unfold takeR; rw [if_neg n1, if_neg nw2, x1, x2, a2, hcu, a3, he, htn]; simp only [Bool.false_eq_true, if_false, Bool.true_eq_false]
  have eM : takeM M (nI j) (nI m) = (mkM (m_n M) (m_sn M) (m_vn M) (m_rn M) (k) (m_nw M) (m_grp M) (m_key M) (m_srt M) (m_sd M) (m_go M) (m_seg M) (va_up (m_la M) j (laK (RT j).f ((RT j).gv + k))) (m_isN M) (m_drp M) (m_has M) (m_sees M) (m_isC M) (m_isG M) (m_ov M) (m_st M) (m_vo M) (m_ko M) (m_sl M) (m_sc M) (m_kp M) (va_up (m_en M) j (m_nw M + m_kp M j)) (p)) := by
    unfold takeM; rw [if_neg n1, if_neg nw2, x1, x2, a2, hcu, a3, he, htn, e1]
    simp only [Bool.false_eq_true, if_false, Bool.true_eq_false]
    unfold tkF
    rw [mk_n, mk_sn, mk_vn, mk_rn, mk_pn, mk_nw, mk_grp, mk_key, mk_srt, mk_sd, mk_go, mk_seg, mk_la, mk_isN, mk_drp, mk_has, mk_sees, mk_isC, mk_isG, mk_ov, mk_st, mk_vo, mk_ko, mk_sl, mk_sc, mk_kp, mk_en, mk_pg]
  rw [eM, eR]
  rw [e1] at hok
  unfold tkF at hok
  have w8 : ∀ i, -1 ≤ va_up (m_la M) j (laK (RT j).f ((RT j).gv + k)) i ∧ va_up (m_la M) j (laK (RT j).f ((RT j).gv + k)) i < 300 := by have := hok.2.2.2.2.2.2.2.1; rw [mk_la] at this; exact this
  have w16 : ∀ i, p i < 2000000000 := by have := hok.2.2.2.2.2.2.2.2.2.2.2.2.2.2.2.1; rw [mk_pg] at this; exact this
  obtain ⟨_, _, _, _, b2, b3, b4, b5, b6⟩ := p1.2.1 j hj
  refine ⟨⟨?_, ?_, ?_⟩, rfl⟩
  · unfold takM
    exact ⟨h1, h2, h3, h4, h5, by show k ≤ 50; omega, h7, h8, h9, h10, h11, h12, h13, h14, h15, fun i => by rw [mkC_pg]; exact cpy_lt (fun i _ => b6 i) h16 i⟩
  · exact ⟨g1, g2, g3, g4, by show k ≤ 50; omega, g6, g7, w8, g9, g10, g11, g12, g13, g14, up_lt g15 (by rw [ekp]; omega), w16, g17, g18, g19, g20⟩
  · have hq := p1.setR hj (R := (rMk (RT j).q (RT j).v (RT j).hs (RT j).cu (RT j).kp ((RT j).gv + k) (k_nw C + (RT j).kp) (RT j).ed (RT j).n (RT j).f)) rfl rfl rfl rfl rfl b4 (show (RT j).gv + k ≤ (RT j).n by omega) (show k_nw C + (RT j).kp ≤ 2000000000 by omega)
    unfold takM
    rw [mkC_n, mkC_fn, mkC_sn, mkC_vc, mkC_rc, mkC_pc, mkC_nw, mkC_grp, mkC_key, mkC_srt, mkC_home, mkC_drp, mkC_kin, mkC_alv, mkC_srs, mkC_pg, mkC_vq, mkC_rq, mkC_L, mkC_F]
    rw [mk_n, mk_sn, mk_vn, mk_rn, mk_pn, mk_nw, mk_grp, mk_key, mk_srt, mk_drp, mk_seg, mk_isN, mk_st, mk_has, mk_sees, mk_vo, mk_ko, mk_sl, mk_sc, mk_kp, mk_en, mk_sd, mk_go, mk_isC, mk_isG, mk_ov, mk_la, mk_pg]
    obtain ⟨i1, i2, i3, i4⟩ := id p2
    have hpr : ∀ i q, pRd (va_up RT j (rMk (RT j).q (RT j).v (RT j).hs (RT j).cu (RT j).kp ((RT j).gv + k) (k_nw C + (RT j).kp) (RT j).ed (RT j).n (RT j).f)) i q = pRd RT i q := fun i q => by
      by_cases e : q = j
      · subst e; simp only [pRd, va_up_self, rMk_v, rMk_ed]
      · simp only [pRd, va_up_ne _ _ e]
    refine ⟨hq, ⟨fun i hi => by rw [cnt_congr (Q := pRd RT i) (fun q _ => hpr i q)]; exact i1 i hi, i2, fun q hq9 => ?_, i4⟩, ⟨en, esn, evn, ern, rfl, enw, eg, ek, es, ed⟩, ro, rv, ⟨fun q hq9 => ?_, rr.2⟩, fun i hi => ?_⟩
    · by_cases e : q = j
      · subst e; rw [va_up_self]; exact i3 q hq9
      · rw [va_up_ne _ _ e]; exact i3 q hq9
    · by_cases e : q = j
      · subst e
        rw [va_up_self, va_up_self, va_up_self]
        exact ⟨a1, a2, a3, fun z => ⟨ekp, by rw [ekp, enw]; rfl⟩, fun z => ⟨(a5 z).1, rfl⟩, fun z => by rw [show (rMk (RT q).q (RT q).v (RT q).hs (RT q).cu (RT q).kp ((RT q).gv + k) (k_nw C + (RT q).kp) (RT q).ed (RT q).n (RT q).f).cu = (RT q).cu from rfl, hcu] at z; exact absurd z (by decide)⟩
      · rw [va_up_ne _ _ e, va_up_ne _ _ e, va_up_ne _ _ e]; exact rr.1 q hq9
    · rw [e2 i hi, pk_cpy_in (Nat.zero_le _) (by omega), Nat.sub_zero]
/-- a reader ends, and its view settles: tables by name -/
theorem rel_er {cI cZ : ClassId} {C : CT} {VT : Nat → VRec} {RT : Nat → RRec} {M : MT} (h : Rel cI cZ C VT RT M) {j : Nat} (hj : j < k_rc C) (he : (RT j).ed = false) : Rel cI cZ (erU C VT RT j) (erV VT RT j) (erT RT j) (settleM (cl1 M j) (m_vo M j)) := by
  have hvo := (h.2.2.2.2.2.2.2.1.1 j hj).1
  have h0 := rel_er0 h hj he (R' := rMk (RT j).q (RT j).v (RT j).hs (RT j).cu (RT j).kp (RT j).gv (RT j).en true (RT j).n (RT j).f) (la := m_la M) rfl rfl rfl rfl rfl rfl rfl rfl rfl (h.2.2.1.2.1 j hj).2.2.2.2.2.1 h.2.1.2.2.2.2.2.2.2.1 (fun _ _ => rfl)
  have hs := rel_settle h0
  rw [va_up_self, va_up_up] at hs
  unfold erU
  rw [he, erM_ei, cl1_ov, hvo]
  exact hs
theorem rel_nw {cI cZ : ClassId} {C : CT} {VT : Nat → VRec} {RT : Nat → RRec} {M : MT} (h : Rel cI cZ C VT RT M) {n9 : Nat} (hn : k_nw C + n9 ≤ 1000000000) (hn2 : n9 ≤ 10000) : Rel cI cZ (nwM C n9) VT RT (tk0 M (nI n9)) := by
  obtain ⟨z, x⟩ := nIx (show n9 < 10001 by omega) (by omega)
  obtain ⟨hk, hm, hB⟩ := h
  obtain ⟨p1, p2, ⟨en, esn, evn, ern, epn, enw, eg, ek, es, ed⟩, ro, rv, rr, pp⟩ := id hB
  obtain ⟨h1, h2, h3, h4, h5, h6, h7, h8, h9, h10, h11, h12, h13, h14, h15, h16⟩ := id hk
  obtain ⟨g1, g2, g3, g4, g5, g6, g7, g8, g9, g10, g11, g12, g13, g14, g15, g16, g17, g18, g19, g20⟩ := id hm
  unfold nwM tk0
  rw [x]
  refine ⟨⟨h1, h2, h3, h4, h5, h6, hn, h8, h9, h10, h11, h12, h13, h14, h15, h16⟩, ⟨g1, g2, g3, g4, g5, by show m_nw M + n9 ≤ 1000000000; omega, g7, g8, g9, g10, g11, g12, g13, g14, g15, g16, g17, g18, g19, g20⟩, ?_⟩
  rw [mkC_n, mkC_fn, mkC_sn, mkC_vc, mkC_rc, mkC_pc, mkC_nw, mkC_grp, mkC_key, mkC_srt, mkC_home, mkC_drp, mkC_kin, mkC_alv, mkC_srs, mkC_pg, mkC_vq, mkC_rq, mkC_L, mkC_F]
  rw [mk_n, mk_sn, mk_vn, mk_rn, mk_pn, mk_nw, mk_grp, mk_key, mk_srt, mk_drp, mk_seg, mk_isN, mk_st, mk_has, mk_sees, mk_vo, mk_ko, mk_sl, mk_sc, mk_kp, mk_en, mk_sd, mk_go, mk_isC, mk_isG, mk_ov, mk_la, mk_pg]
  exact ⟨p1, p2, ⟨en, esn, evn, ern, epn, by rw [enw], eg, ek, es, ed⟩, ro, rv, rr, pp⟩
theorem tick_go {cI cZ : ClassId} {C0 : CT} {VT : Nat → VRec} {RT : Nat → RRec} {M : MT} (h : Rel cI cZ C0 VT RT M) : ∀ i, i ≤ k_rc C0 → ∃ F, Rel cI cZ (sfM C0 (tkA (k_nw C0) VT RT (k_srs C0) i).2.2 F) (tkA (k_nw C0) VT RT (k_srs C0) i).1 (tkA (k_nw C0) VT RT (k_srs C0) i).2.1 (tickS M i) ∧ tickC M i = cnt (tkC (k_nw C0) RT) i := by
  intro i
  induction i with
  | zero => intro _; exact ⟨k_F C0, h, rfl⟩
  | succ i ih =>
    intro hi
    obtain ⟨F, hR, hC⟩ := ih (by omega)
    have hcur : tkC (k_nw C0) (tkA (k_nw C0) VT RT (k_srs C0) i).2.1 i = tkC (k_nw C0) RT i := by simp only [tkC, tkA_R]; simp
    have hir : i < k_rc (sfM C0 (tkA (k_nw C0) VT RT (k_srs C0) i).2.2 F) := by unfold sfM; rw [mkC_rc]; omega
    have hP : tickP (tickS M i) i = tkC (k_nw C0) (tkA (k_nw C0) VT RT (k_srs C0) i).2.1 i := by
      obtain ⟨a1, a2, a3, a4, _⟩ := hR.2.2.2.2.2.2.2.1.1 i hir
      have e6 := hR.2.2.2.2.1.2.2.2.2.2.1
      have e6' : k_nw C0 = m_nw (tickS M i) := by rw [← e6]; unfold sfM; rw [mkC_nw]
      unfold tickP tkC
      rw [a2, a3, e6']
      cases hcu : ((tkA (m_nw (tickS M i)) VT RT (k_srs C0) i).2.1 i).cu with
      | false => rw [← e6'] at hcu; simp [e6' ▸ hcu]
      | true =>
        have hcu' : ((tkA (k_nw C0) VT RT (k_srs C0) i).2.1 i).cu = true := by rw [e6']; exact hcu
        rw [(a4 hcu').2, ← e6']
        rw [Bool.and_assoc]
    simp only [tickS, tickC, tkA]
    rw [hP]
    cases hc : tkC (k_nw C0) (tkA (k_nw C0) VT RT (k_srs C0) i).2.1 i with
    | false =>
      simp only [Bool.false_eq_true, if_false, Nat.add_zero]
      exact ⟨F, hR, cnt_f hC (hcur.symm.trans hc)⟩
    | true =>
      simp only [if_true]
      have hed : ((tkA (k_nw C0) VT RT (k_srs C0) i).2.1 i).ed = false := by
        have := hc; simp only [tkC, Bool.and_eq_true] at this
        have := this.2.1; simpa using this
      have hn := rel_er hR hir hed
      rw [erU_sf hed, sfM_sfM] at hn
      have e9 : k_srs (sfM C0 (tkA (k_nw C0) VT RT (k_srs C0) i).2.2 F) = (tkA (k_nw C0) VT RT (k_srs C0) i).2.2 := by unfold sfM; exact mkC_srs
      rw [e9] at hn
      exact ⟨_, hn, cnt_t hC (hcur.symm.trans hc)⟩
theorem rel_tick {cI cZ : ClassId} {C : CT} {VT : Nat → VRec} {RT : Nat → RRec} {M : MT} (h : Rel cI cZ C VT RT M) {n9 k : Nat} {u : CT} {VT9 : Nat → VRec} {RT9 : Nat → RRec} (hn2 : n9 ≤ 10000) (hn : k_nw C + n9 ≤ 1000000000) (hT : TI cI cZ (nwM C n9) VT RT (k_rc C) k u VT9 RT9) : Rel cI cZ u VT9 RT9 (tickM M (nI n9)) ∧ tickR M (nI n9) = nI k ∧ tickT M (nI n9) = 0 := by
  have h0 := rel_nw h hn hn2
  obtain ⟨z, x⟩ := nIx (show n9 < 10001 by omega) (by omega)
  have hrc : k_rc (nwM C n9) = k_rc C := by unfold nwM; exact mkC_rc
  obtain ⟨F, hR, hC⟩ := tick_go h0 (k_rc C) (by omega)
  have hok := hT.ok h0.1
  obtain ⟨⟨F', e1⟩, e2, e3, e4, e5, e6⟩ := hT
  have ern := h.2.2.2.2.1.2.2.2.1
  have enw := h.2.2.2.2.1.2.2.2.2.2.1
  have hnb : ¬ ((nI n9).toInt < 0 ∨ 10000 < (nI n9).toInt ∨ 1000000000 < ((m_nw M : Nat) : Int) + (nI n9).toInt) := by rw [z]; omega
  unfold tickM tickR tickT
  rw [if_neg hnb, if_neg hnb, if_neg hnb, ← ern, hC, ← e6]
  refine ⟨⟨hok, hR.2.1, ?_⟩, rfl, rfl⟩
  have hb := hR.2.2
  rw [← e2, ← e3] at hb
  rw [e1] at e4 ⊢
  generalize (tkA (k_nw (nwM C n9)) VT RT (k_srs (nwM C n9)) (k_rc C)).2.2 = S at hb e4 ⊢
  generalize nwM C n9 = B at hb e4 ⊢
  unfold PR at e4
  unfold sfM at hb e4 ⊢
  rw [mkC_vc, mkC_rc, mkC_vq, mkC_rq, mkC_L, mkC_F] at e4
  rw [mkC_n, mkC_fn, mkC_sn, mkC_vc, mkC_rc, mkC_pc, mkC_nw, mkC_grp, mkC_key, mkC_srt, mkC_home, mkC_drp, mkC_kin, mkC_alv, mkC_srs, mkC_pg, mkC_vq, mkC_rq, mkC_L, mkC_F] at hb
  rw [mkC_n, mkC_fn, mkC_sn, mkC_vc, mkC_rc, mkC_pc, mkC_nw, mkC_grp, mkC_key, mkC_srt, mkC_home, mkC_drp, mkC_kin, mkC_alv, mkC_srs, mkC_pg, mkC_vq, mkC_rq, mkC_L, mkC_F]
  exact ⟨e4, hb.2⟩
theorem rel_told {cI cZ : ClassId} {C : CT} {VT : Nat → VRec} {RT : Nat → RRec} {M : MT} (h : Rel cI cZ C VT RT M) {w : Nat} (hw : w < 12) : toldT (nI w) = 0 ∧ toldR M (nI w) = nI (tldC C VT RT w) := by
  obtain ⟨z, x⟩ := nIx hw (by omega)
  have c0 := h.cof 0
  have c1 := h.cof 1
  have c2 := h.cof 2
  obtain ⟨hk, hm, hB⟩ := h
  obtain ⟨p1, p2, ⟨en, esn, evn, ern, epn, enw, eg, ek, es, ed⟩, ro, rv, rr, pp⟩ := id hB
  obtain ⟨h1, h2, h3, h4, h5, h6, h7, h8, h9, h10, h11, h12, h13, h14, h15, h16⟩ := id hk
  obtain ⟨g1, g2, g3, g4, g5, g6, g7, g8, g9, g10, g11, g12, g13, g14, g15, g16, g17, g18, g19, g20⟩ := id hm
  have e7 : cnt (pGo M) (m_vn M) = cnt (stGo VT) (k_vc C) := by rw [← evn]; exact cnt_congr (fun v hv => by unfold pGo stGo; rw [(rv.1 v hv).1]; simp)
  have e9 : cnt (pRun M) (m_rn M) = cnt (rdGo RT) (k_rc C) := by rw [← ern]; exact cnt_congr (fun j hj => by unfold pRun rdGo; rw [(rr.1 j hj).2.2.1])
  have e1 : newOnes M = newF (k_fn C) (k_drp C) (k_n C) := by rw [ed]; exact newOnes_eq ro en
  have hb : ¬ ((nI w).toInt < 0 ∨ 11 < (nI w).toInt) := by rw [z]; omega
  unfold toldT toldR tldC
  rw [if_neg hb, if_neg hb, e7, e9, e1, z, x]
  refine ⟨rfl, ?_⟩
  obtain rfl | rfl | rfl | rfl | rfl | rfl | rfl | rfl | rfl | rfl | rfl | rfl : w = 0 ∨ w = 1 ∨ w = 2 ∨ w = 3 ∨ w = 4 ∨ w = 5 ∨ w = 6 ∨ w = 7 ∨ w = 8 ∨ w = 9 ∨ w = 10 ∨ w = 11 := by omega
  · rw [if_neg (by decide), if_neg (by decide), if_pos (by decide), if_pos rfl, en]
  · rw [if_neg (by decide), if_neg (by decide), if_neg (by decide), if_pos (by decide)]; rfl
  · rw [if_neg (by decide), if_neg (by decide), if_neg (by decide), if_neg (by decide), if_pos (by decide), ← esn]; rfl
  · rw [if_neg (by decide), if_neg (by decide), if_neg (by decide), if_neg (by decide), if_neg (by decide), if_pos (by decide), c0]; rfl
  · rw [if_neg (by decide), if_neg (by decide), if_neg (by decide), if_neg (by decide), if_neg (by decide), if_pos (by decide), c1]; rfl
  · rw [if_neg (by decide), if_neg (by decide), if_neg (by decide), if_neg (by decide), if_neg (by decide), if_pos (by decide), c2]; rfl
  · rw [if_neg (by decide), if_neg (by decide), if_neg (by decide), if_neg (by decide), if_neg (by decide), if_neg (by decide), if_pos (by decide), ← evn]; rfl
  · rw [if_pos (by decide)]; rfl
  · rw [if_neg (by decide), if_neg (by decide), if_neg (by decide), if_neg (by decide), if_neg (by decide), if_neg (by decide), if_neg (by decide), if_pos (by decide), ← ern]; rfl
  · rw [if_neg (by decide), if_pos (by decide)]; rfl
  · rw [if_neg (by decide), if_neg (by decide), if_neg (by decide), if_neg (by decide), if_neg (by decide), if_neg (by decide), if_neg (by decide), if_neg (by decide), if_pos (by decide), ← enw]; rfl
  · rw [if_neg (by decide), if_neg (by decide), if_neg (by decide), if_neg (by decide), if_neg (by decide), if_neg (by decide), if_neg (by decide), if_neg (by decide), if_neg (by decide), ← epn]; rfl
