/-! cursors and iterators are opened -/
theorem nsM_row (B : CT) (m k : Nat) : k_row (nsM B m k) = (nrL (pSl (k_key B) m k) (k_row B) (k_kc B)).2 ∧ k_kc (nsM B m k) = (nrL (pSl (k_key B) m k) (k_row B) (k_kc B)).1 := by unfold nsM; exact ⟨mkC_row, mkC_kc⟩
theorem cuC_rd {cI : ClassId} {B : CT} {VT : Nat → VRec} {i kp q1 q2 : Nat} : cuC cI B (VT i).q (VT i).hs (VT i).se (VT i).c (VT i).g (VT i).st (VT i).r kp q1 q2 = rdM cI B VT i q1 q2 (rMk q1 i q2 true kp 0 (k_nw B + kp) false (k_kc B) (cpR (k_row B) (k_kc B))) := rfl
theorem itC_rd {cI : ClassId} {B : CT} {VT : Nat → VRec} {i q1 q2 : Nat} : itC cI B (VT i).q (VT i).hs (VT i).se (VT i).c (VT i).g (VT i).st (VT i).r q1 q2 = rdM cI B VT i q1 q2 (rMk q1 i q2 false 0 0 0 false (k_kc B) (cpR (k_row B) (k_kc B))) := rfl
theorem rel_cursor {cI cZ : ClassId} {C : CT} {VT : Nat → VRec} {RT : Nat → RRec} {M : MT} (h : Rel cI cZ C VT RT M) {i kd m k kp q1 q2 : Nat} {sd : Int64} (hi : i < k_vc C) (hkd : kd < 3) (hm1 : 1 ≤ m) (hm2 : m ≤ 8) (hkm : k < m) (hp1 : 1 ≤ kp) (hp2 : kp ≤ 1000) (hst : (VT i).st = 0) (hrc : k_rc C < 60) (f1 : q1 ∉ k_L (nsM (rkM C (VT i).f (VT i).c kd sd) m k)) (f2 : q2 ∉ k_L (nsM (rkM C (VT i).f (VT i).c kd sd) m k) ++ [q1]) :
    ∃ VT' RT', Rel cI cZ (cuC cI (nsM (rkM C (VT i).f (VT i).c kd sd) m k) (VT i).q (VT i).hs (VT i).se (VT i).c (VT i).g (VT i).st (VT i).r kp q1 q2) VT' RT' (curM M (nI i) (nI kd) sd (nI m) (nI k) (nI kp)) := by
  obtain ⟨z1, x1, n1⟩ := vT_ok h hi
  obtain ⟨z2, x2, n2⟩ := kd_ok hkd
  obtain ⟨z3, x3⟩ := nIx (show m < 9 by omega) (by omega)
  obtain ⟨z4, x4⟩ := nIx (show k < 9 by omega) (by omega)
  obtain ⟨z5, x5⟩ := nIx (show kp < 1001 by omega) (by omega)
  have hE0 := h.rkE hi kd sd
  have hkey := h.2.2.2.2.1.2.2.2.2.2.2.2.1
  have hA : kOk (rkM C (VT i).f (VT i).c kd sd) := ok_rkM h.1 (h.vw hi).2.1 (h.2.2.1.1 i hi).2.2.2.2.2.2.2.2.2.1
  have hRA := h.rk hA
  have hRB := hRA.ns (m := m) (w := k) (ok_nsM hA)
  have hkcA : k_kc (rkM C (VT i).f (VT i).c kd sd) = (VT i).c := rkM_kc C _ _ _ _
  have hkeyA : k_key (rkM C (VT i).f (VT i).c kd sd) = m_key M := by rw [rkM_key]; exact hkey
  have hrcB : k_rc (nsM (rkM C (VT i).f (VT i).c kd sd) m k) = k_rc C := by rw [nsM_rc, rkM_rc]
  have hvcB : k_vc (nsM (rkM C (VT i).f (VT i).c kd sd) m k) = k_vc C := by rw [nsM_vc, rkM_vc]
  have hE1 : Enu (ahF (m_srt M) (m_key M) kd sd) (fun o => m_in M i o && pSl (m_key M) m k o) (m_n M) (k_row (nsM (rkM C (VT i).f (VT i).c kd sd) m k)) (k_kc (nsM (rkM C (VT i).f (VT i).c kd sd) m k)) := by
    obtain ⟨e1, e2⟩ := nsM_row (rkM C (VT i).f (VT i).c kd sd) m k
    rw [e1, e2, hkcA, hkeyA]
    exact nrL_enu hE0
  generalize nsM (rkM C (VT i).f (VT i).c kd sd) m k = B at hRB hrcB hvcB hE1 f1 f2 ⊢
  rw [cuC_rd]
  have h := hRB
  obtain ⟨hk, hm, hB⟩ := h
  obtain ⟨p1, p2, ⟨en, esn, evn, ern, epn, enw, eg, ek, es, ed⟩, ro, rv, rr, pp⟩ := id hB
  obtain ⟨h1, h2, h3, h4, h5, h6, h7, h8, h9, h10, h11, h12, h13, h14, h15, h16⟩ := id hk
  obtain ⟨g1, g2, g3, g4, g5, g6, g7, g8, g9, g10, g11, g12, g13, g14, g15, g16, g17, g18, g19, g20⟩ := id hm
  have hfr := rr.2 (k_rc B) (Nat.le_refl _) (by omega)
  have hst' : m_st M i = 0 := by rw [(rv.1 i (by omega)).1, hst]
  have eM : curM M (nI i) (nI kd) sd (nI m) (nI k) (nI kp) = nwR M i kd sd true (m_isG M) (m_ov M) (m_go M) (va_up (m_sl M) (m_rn M) m) (va_up (m_sc M) (m_rn M) k) (va_up (m_kp M) (m_rn M) kp) (va_up (m_en M) (m_rn M) (m_nw M + kp)) := by
    unfold curM
    have hb2 : ¬ (((nI kd).toInt < 0 ∨ 3 ≤ (nI kd).toInt) ∨ (nI m).toInt < 1 ∨ 8 < (nI m).toInt ∨ (nI k).toInt < 0 ∨ (nI m).toInt ≤ (nI k).toInt ∨ (nI kp).toInt < 1 ∨ 1000 < (nI kp).toInt) := fun q => q.elim n2 (by rw [z3, z4, z5]; omega)
    rw [if_neg n1, if_neg hb2, x1, if_pos hst', if_neg (by omega), x2, x3, x4, x5]
    rfl
  rw [eM]
  have hcf : ∀ j, cpR (k_row B) (k_kc B) j < 300 := fun j => cpR_lt (by omega) _ h13 j
  refine ⟨_, _, rel_newR hRB (R := rMk q1 i q2 true kp 0 (k_nw B + kp) false (k_kc B) (cpR (k_row B) (k_kc B))) (by omega) hst (by omega) f1 f2 rfl rfl rfl rfl h8 hp2 (show k_nw B + kp ≤ 2000000000 by omega) hcf ?_ (fun j hj => ⟨rfl, rfl, rfl, va_up_ne _ _ hj, va_up_ne _ _ hj, va_up_ne _ _ hj, va_up_ne _ _ hj⟩) ?_ (fun _ => ⟨va_up_self _ _ _, ?_⟩) (fun _ => ?_) (fun z => absurd (show true = false from z) (by decide))⟩
  · unfold nwR
    exact ⟨g1, g2, g3, by show m_rn M + 1 ≤ 60; omega, g5, g6, g7, up_in g8 (by omega), g9, up_lt g10 (by omega), up_lt g11 (by omega), up_lt g12 (by omega), up_lt g13 (by omega), up_lt g14 (by omega), up_lt g15 (by omega), g16, up_lt g17 (by omega), up_lt g18 hkd, up_lt g19 (by omega), up_lt g20 (by omega)⟩
  · rw [← ern]; exact hfr.1
  · rw [va_up_self, enw]; rfl
  · rw [← ern, hfr.2, va_up_self, va_up_self]
    refine hE1.congr (fun j hj => cpR_at _ hj) (fun o _ => ?_) (fun _ _ _ _ _ _ => rfl)
    show folP (m_in M i) (m_grp M) (m_key M) false _ m k o = _
    unfold folP pSl
    rw [decide_eq_false (show ¬ m = 0 by omega)]
    simp
theorem leaderM_eq {M M' : MT} (e1 : m_n M' = m_n M) (e2 : m_has M' = m_has M) (e3 : m_grp M' = m_grp M) (e4 : m_key M' = m_key M) (e5 : m_srt M' = m_srt M) (v kd : Nat) (sd : Int64) (k : Nat) : leaderM M' v kd sd k = leaderM M v kd sd k := by
  have ha : aheadB M' kd sd = aheadB M kd sd := by rw [aheadB_eq, aheadB_eq, e4, e5]
  have hi : ∀ w, m_in M' w = m_in M w := fun w => by funext o; unfold m_in; rw [e2]
  have hf : ∀ o, isFirstB M' v o kd sd = isFirstB M v o kd sd := fun o => by
    have hp : pOwn M' v o kd sd = pOwn M v o kd sd := by funext p; unfold pOwn; rw [hi, e3, ha]
    unfold isFirstB
    rw [hi, hp, e1]
  have hl : leadP M' v kd sd k = leadP M v kd sd k := by
    funext o
    have hp : pLd M' v kd sd o = pLd M v kd sd o := by funext p; unfold pLd; rw [hf, ha]
    unfold leadP gRank
    rw [hf, hp, e1]
  unfold leaderM
  rw [hl, e1]
theorem nwR_nxt {M : MT} {i kd c : Nat} {sd : Int64} {cu : Bool} {isG' ov' : Nat → Bool} {go' : Nat → Int64} {sl' sc' kp' en' : Nat → Nat} {f : Nat → Nat} (h : Enu (ahF (m_srt M) (m_key M) kd sd) (folP (m_in M i) (m_grp M) (m_key M) (isG' (m_rn M)) (go' (m_rn M)) (if cu then sl' (m_rn M) else 0) (sc' (m_rn M))) (m_n M) f c) : nextOf (nwR M i kd sd cu isG' ov' go' sl' sc' kp' en') (m_rn M) = nxK f c 0 := by
  refine nextOf_at (n := m_n M) ?_ ?_ ?_ (Nat.zero_le _)
  · unfold nwR; rw [mk_n]
  · unfold m_in nwR
    rw [mk_srt, mk_key, mk_ko, mk_sd, mk_has, mk_vo, mk_grp, mk_isG, mk_go, mk_isC, mk_sl, mk_sc, va_up_self, va_up_self, va_up_self, va_up_self]
    exact h
  · unfold nwR; rw [mk_la, va_up_self]; rfl
theorem up4 {α : Type} {X : Nat → α} {q v : Nat} {r0 a r1 c : α} (h : v ≠ q) : va_up (va_up (va_up (va_up X q r0) v a) q r1) v c = va_up (va_up X q r1) v c := by
  funext o
  by_cases e : o = v
  · subst e; rw [va_up_self, va_up_self]
  · rw [va_up_ne _ _ e, va_up_ne _ _ e]
    by_cases f : o = q
    · subst f; rw [va_up_self, va_up_self]
    · rw [va_up_ne _ _ f, va_up_ne _ _ e, va_up_ne _ _ f, va_up_ne _ _ f]
/-- an iterator's end as it is made -/
theorem itC_eg {cI : ClassId} {B : CT} {VT : Nat → VRec} {i q1 q2 : Nat} (hne : (VT i).q ≠ q1) (hst : (VT i).st = 0) : egM (itC cI B (VT i).q (VT i).hs (VT i).se (VT i).c (VT i).g (VT i).st (VT i).r q1 q2) q1 (VT i).q q2 false 0 0 0 false (k_kc B) (VT i).hs (VT i).se (VT i).c (VT i).g (VT i).st ((VT i).r + 1) (VT i).sn (VT i).sf = rdM cI B VT i q1 q2 (rMk q1 i q2 false 0 0 0 (decide (k_kc B = 0)) (k_kc B) (cpR (k_row B) (k_kc B))) := by
  unfold egM
  by_cases hz : k_kc B = 0
  · rw [if_pos (by omega)]
    unfold erM
    rw [if_neg (by decide)]
    unfold eiM
    rw [if_neg (by omega), decide_eq_true hz, itC_rd]
    unfold erM0 rdM
    rw [mkC_ra, mkC_rb, mkC_vc, mkC_rc, mkC_pc, mkC_nw, mkC_n, mkC_fn, mkC_sn, mkC_kc, mkC_grp, mkC_key, mkC_srt, mkC_wt, mkC_home, mkC_drp, mkC_met, mkC_kin, mkC_alv, mkC_srs, mkC_row, mkC_sp, mkC_kis, mkC_pg, mkC_vq, mkC_rq, mkC_L, mkC_F, Nat.add_sub_cancel]
    show mkC _ _ _ _ _ _ _ _ _ _ _ _ _ _ _ _ _ _ _ _ _ _ _ _ _ _ _ (va_up (va_up (va_up (va_up _ q1 _) (VT i).q _) q1 _) (VT i).q _) = _
    rw [up4 hne]
    rfl
  · rw [if_neg (by omega), decide_eq_false hz, itC_rd]
/-- an iterator over a row that stands in the order -/
theorem rel_iter {cI cZ : ClassId} {B : CT} {VT : Nat → VRec} {RT : Nat → RRec} {M : MT} (hRB : Rel cI cZ B VT RT M) {i kd q1 q2 : Nat} {sd : Int64} {x y z : Int32} (hx : x = nI i) (hy : y = nI kd) (hi : i < k_vc B) (hkd : kd < 3) (hst : (VT i).st = 0) (hrc : k_rc B < 60) (f1 : q1 ∉ k_L B) (f2 : q2 ∉ k_L B ++ [q1]) (hz : ¬ (z.toInt < -1 ∨ ((groupCount M i : Nat) : Int) ≤ z.toInt))
    (hE1 : Enu (ahF (m_srt M) (m_key M) kd sd) (folP (m_in M i) (m_grp M) (m_key M) (itB z) (itG M x y sd z) 0 (m_sc M (m_rn M))) (m_n M) (k_row B) (k_kc B)) :
    ∃ VT' RT', Rel cI cZ (egM (itC cI B (VT i).q (VT i).hs (VT i).se (VT i).c (VT i).g (VT i).st (VT i).r q1 q2) q1 (VT i).q q2 false 0 0 0 false (k_kc B) (VT i).hs (VT i).se (VT i).c (VT i).g (VT i).st ((VT i).r + 1) (VT i).sn (VT i).sf) VT' RT' (itM M x y sd z) ∧ itT M x y sd z = 0 ∧ itR M x y sd z = nI (k_rc B) := by
  obtain ⟨z1, x1, n1⟩ := vT_ok hRB hi
  obtain ⟨z2, x2, n2⟩ := kd_ok hkd
  rw [← hx] at z1 x1 n1
  rw [← hy] at z2 x2 n2
  have h := hRB
  obtain ⟨hk, hm, hB⟩ := h
  obtain ⟨p1, p2, ⟨en, esn, evn, ern, epn, enw, eg, ek, es, ed⟩, ro, rv, rr, pp⟩ := id hB
  obtain ⟨h1, h2, h3, h4, h5, h6, h7, h8, h9, h10, h11, h12, h13, h14, h15, h16⟩ := id hk
  obtain ⟨g1, g2, g3, g4, g5, g6, g7, g8, g9, g10, g11, g12, g13, g14, g15, g16, g17, g18, g19, g20⟩ := id hm
  have hst' : m_st M i = 0 := by rw [(rv.1 i hi).1, hst]
  have hcf : ∀ j, cpR (k_row B) (k_kc B) j < 300 := fun j => cpR_lt (by omega) _ h13 j
  have hE2 : Enu (ahF (m_srt M) (m_key M) kd sd) (folP (m_in M i) (m_grp M) (m_key M) (va_up (m_isG M) (m_rn M) (itB z) (m_rn M)) (va_up (m_go M) (m_rn M) (itG M x y sd z) (m_rn M)) (if false then m_sl M (m_rn M) else 0) (m_sc M (m_rn M))) (m_n M) (cpR (k_row B) (k_kc B)) (k_kc B) := by
    rw [va_up_self, va_up_self]
    exact hE1.congr (fun j hj => cpR_at _ hj) (fun _ _ => rfl) (fun _ _ _ _ _ _ => rfl)
  have hnx : decide (nextOf (it2 M x y sd (itB z) (itG M x y sd z)) (m_rn M) < 0) = decide (k_kc B = 0) := by
    have e2 : it2 M x y sd (itB z) (itG M x y sd z) = nwR M i kd sd false (va_up (m_isG M) (m_rn M) (itB z)) (m_ov M) (va_up (m_go M) (m_rn M) (itG M x y sd z)) (m_sl M) (m_sc M) (m_kp M) (m_en M) := by unfold it2; rw [x1, x2]; rfl
    rw [e2, nwR_nxt hE2]
    refine decide_eq_decide.mpr ?_
    unfold nxK
    split <;> omega
  have hb1 : ¬ ((x.toInt < 0 ∨ ((m_vn M : Nat) : Int) ≤ x.toInt) ∨ z.toInt < -1 ∨ ((groupCount M (ix x) : Nat) : Int) ≤ z.toInt) := by rw [x1]; exact fun q => q.elim n1 hz
  have eM : itM M x y sd z = nwR M i kd sd false (va_up (m_isG M) (m_rn M) (itB z)) (va_up (m_ov M) (m_rn M) (decide (k_kc B = 0))) (va_up (m_go M) (m_rn M) (itG M x y sd z)) (m_sl M) (m_sc M) (m_kp M) (m_en M) := by
    unfold itM
    rw [if_neg hb1, if_neg n2, x1, if_pos hst', if_neg (by omega), hnx]
    unfold it3
    rw [x1, x2]
    rfl
  have hne : (VT i).q ≠ q1 := fun e => f1 (e ▸ (p1.1 i hi).2.1.1)
  rw [eM, itC_eg hne hst]
  refine ⟨_, _, rel_newR hRB (R := rMk q1 i q2 false 0 0 0 (decide (k_kc B = 0)) (k_kc B) (cpR (k_row B) (k_kc B))) hi hst hrc f1 f2 rfl rfl rfl rfl h8 (show 0 ≤ 1000 by omega) (show 0 ≤ 2000000000 by omega) hcf ?_ (fun j hj => ⟨va_up_ne _ _ hj, va_up_ne _ _ hj, va_up_ne _ _ hj, rfl, rfl, rfl, rfl⟩) (va_up_self _ _ _) (fun z9 => absurd (show false = true from z9) (by decide)) (fun _ => hE2) (fun _ z9 => ?_), ?_, ?_⟩
  · unfold nwR
    exact ⟨g1, g2, g3, by show m_rn M + 1 ≤ 60; omega, g5, g6, g7, up_in g8 (by omega), g9, up_lt g10 (by omega), up_lt g11 (by omega), g12, g13, g14, g15, g16, up_lt g17 (by omega), up_lt g18 hkd, g19, g20⟩
  · have : ¬ k_kc B = 0 := of_decide_eq_false z9
    show 0 < k_kc B
    omega
  · unfold itT; rw [if_neg hb1, if_neg n2, x1, if_pos hst']
  · unfold itR; rw [if_neg hb1, if_neg n2, x1, if_pos hst', if_neg (by omega), ern]
