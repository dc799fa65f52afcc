/-! a view is opened -/
theorem seZ_at {alv : Nat → Nat} : ∀ i j, seZ alv i j = (decide (j < i) && decide (0 < alv j)) := by
  intro i
  induction i with
  | zero => intro j; simp [seZ]
  | succ i ih =>
    intro j
    simp only [seZ]
    by_cases hp : 0 < alv i
    · rw [if_pos hp]
      by_cases e : j = i
      · subst e; rw [va_up_self]; simp [hp]
      · rw [va_up_ne _ _ e, ih]
        by_cases f : j < i
        · simp [f, show j < i + 1 by omega]
        · simp [f, show ¬ j < i + 1 by omega]
    · rw [if_neg hp, ih]
      by_cases e : j = i
      · subst e; simp [hp]
      · by_cases f : j < i
        · simp [f, show j < i + 1 by omega]
        · simp [f, show ¬ j < i + 1 by omega]
theorem seS_at {alv srs : Nat → Nat} : ∀ i j, seS alv srs i j = srs j + (if j < i ∧ 0 < alv j then 1 else 0) := by
  intro i
  induction i with
  | zero => intro j; simp [seS]
  | succ i ih =>
    intro j
    simp only [seS]
    by_cases hp : 0 < alv i
    · rw [if_pos hp]
      by_cases e : j = i
      · subst e; rw [va_up_self, ih]; simp [hp]
      · rw [va_up_ne _ _ e, ih]
        by_cases f : j < i
        · simp [f, show j < i + 1 by omega]
        · simp [f, show ¬ j < i + 1 by omega]
    · rw [if_neg hp, ih]
      by_cases e : j = i
      · subst e; simp [hp]
      · by_cases f : j < i
        · simp [f, show j < i + 1 by omega]
        · simp [f, show ¬ j < i + 1 by omega]
theorem vwH_new (M : MT) : ∀ i o, vwH M i (300 * m_vn M + o) = ((decide (o < i) && pStand M o) || m_has M (300 * m_vn M + o)) := by
  intro i
  induction i with
  | zero => intro o; simp [vwH]
  | succ i ih =>
    intro o
    simp only [vwH]
    by_cases hp : pStand M i = true
    · rw [if_pos hp]
      by_cases e : o = i
      · subst e; rw [va_up_self]; simp [hp]
      · rw [va_up_ne _ _ (by omega), ih]
        by_cases f : o < i
        · simp [f, show o < i + 1 by omega]
        · simp [f, show ¬ o < i + 1 by omega]
    · rw [if_neg hp, ih]
      by_cases e : o = i
      · subst e; simp [hp]
      · by_cases f : o < i
        · simp [f, show o < i + 1 by omega]
        · simp [f, show ¬ o < i + 1 by omega]
theorem vwH_old (M : MT) {k : Nat} : ∀ i, (∀ o, o < i → k ≠ 300 * m_vn M + o) → vwH M i k = m_has M k := by
  intro i
  induction i with
  | zero => intro _; rfl
  | succ i ih =>
    intro h
    simp only [vwH]
    split
    · rw [va_up_ne _ _ (h i (by omega))]; exact ih (fun o ho => h o (by omega))
    · exact ih (fun o ho => h o (by omega))
theorem vwS_new (M : MT) : ∀ i q, vwS M i (40 * m_vn M + q) = (anyB (fun o => pStand M o && decide ((m_seg M o).toNat = q)) i || m_sees M (40 * m_vn M + q)) := by
  intro i
  induction i with
  | zero => intro q; simp [vwS, anyB]
  | succ i ih =>
    intro q
    simp only [vwS, anyB]
    by_cases hp : pStand M i = true
    · rw [if_pos hp]
      by_cases e : (m_seg M i).toNat = q
      · rw [e, va_up_self]; simp [hp]
      · rw [va_up_ne _ _ (by omega), ih]; simp [hp, e]
    · rw [if_neg hp, ih]; simp [hp]
theorem vwS_old (M : MT) {k : Nat} : ∀ i, (∀ o, o < i → k ≠ 40 * m_vn M + (m_seg M o).toNat) → vwS M i k = m_sees M k := by
  intro i
  induction i with
  | zero => intro _; rfl
  | succ i ih =>
    intro h
    simp only [vwS]
    split
    · rw [va_up_ne _ _ (h i (by omega))]; exact ih (fun o ho => h o (by omega))
    · exact ih (fun o ho => h o (by omega))
theorem anyB_congr {P Q : Nat → Bool} {n : Nat} (h : ∀ i, i < n → P i = Q i) : anyB P n = anyB Q n := by
  induction n with
  | zero => rfl
  | succ n ih => simp only [anyB]; rw [ih (fun i hi => h i (by omega)), h n (by omega)]
theorem gcF_congr {kin : Nat → Nat} {P Q : Nat → Bool} {n : Nat} (h : ∀ o, o < n → P o = Q o) : gcF kin P n = gcF kin Q n := by
  unfold gcF
  exact cnt_congr (fun k _ => anyB_congr (fun o ho => by rw [h o ho]))
theorem RelO.stand {n fn sn : Nat} {home : Nat → Int} {alv kin : Nat → Nat} {grp : Nat → Int64} {M : MT} (h : RelO n fn sn home alv kin grp (m_drp M) (m_seg M) (m_isN M)) {o : Nat} (ho : o < n) : pStand M o = stF home (m_drp M) o := by
  unfold pStand stF
  rw [← h.1 o ho, h.2.1 o]
  have hb := h.2.2.2.2.1 o ho
  by_cases e : fn ≤ o
  · have := h.2.2.2.1 o e ho
    rw [this]; simp
  · by_cases f : home o = -1
    · rw [f]; simp [e]
    · have : 0 ≤ home o := by omega
      simp [e, f, this]
/-- other rows of the view's table are as they were -/
theorem RelV.has {n : Nat} {kin : Nat → Nat} {VT VT' : Nat → VRec} {st st' : Nat → Nat} {has has' sees sees' : Nat → Bool} (hn : n ≤ 300) {v : Nat} (hh : ∀ o, o < 300 → has' (300 * v + o) = has (300 * v + o)) (hs : ∀ q, q < 40 → sees' (40 * v + q) = sees (40 * v + q)) (hst : st' v = st v) (hV : VT' v = VT v)
    (h : st v = (VT v).st ∧ Enu ltB (fun o => has (300 * v + o)) n (VT v).f (VT v).c ∧ (VT v).g = gcF kin (fun o => has (300 * v + o)) n ∧ (∀ o, n ≤ o → o < 300 → has (300 * v + o) = false) ∧ ∀ q, q < 40 → sees (40 * v + q) = (decide (q < (VT v).sn) && (VT v).sf q)) :
    st' v = (VT' v).st ∧ Enu ltB (fun o => has' (300 * v + o)) n (VT' v).f (VT' v).c ∧ (VT' v).g = gcF kin (fun o => has' (300 * v + o)) n ∧ (∀ o, n ≤ o → o < 300 → has' (300 * v + o) = false) ∧ ∀ q, q < 40 → sees' (40 * v + q) = (decide (q < (VT' v).sn) && (VT' v).sf q) := by
  rw [hV]
  obtain ⟨a1, a2, a3, a4, a5⟩ := h
  exact ⟨hst.trans a1, a2.congr (fun _ _ => rfl) (fun o ho => hh o (by omega)) (fun _ _ _ _ _ _ => rfl), a3.trans (gcF_congr (fun o ho => (hh o (by omega)).symm)), fun o h1 h2 => (hh o h2).trans (a4 o h1 h2), fun q hq => (hs q hq).trans (a5 q hq)⟩
theorem RelR.has {n rc : Nat} {grp key srt : Nat → Int64} {has has' : Nat → Bool} {RT : Nat → RRec} {vo ko sl sc kp en : Nat → Nat} {sd go : Nat → Int64} {isC isG ov : Nat → Bool} {la : Nat → Int} (h : RelR n rc grp key srt has RT vo ko sl sc kp en sd go isC isG ov la) (hh : ∀ j, j < rc → (RT j).ed = false → ∀ o, o < n → has' (300 * (RT j).v + o) = has (300 * (RT j).v + o)) : RelR n rc grp key srt has' RT vo ko sl sc kp en sd go isC isG ov la := by
  refine ⟨fun j hj => ?_, h.2⟩
  obtain ⟨a1, a2, a3, a4, a5, a6⟩ := h.1 j hj
  refine ⟨a1, a2, a3, a4, fun he => ⟨(a5 he).1.congr (fun _ _ => rfl) (fun o ho => ?_) (fun _ _ _ _ _ _ => rfl), (a5 he).2⟩, a6⟩
  unfold folP
  dsimp only
  rw [hh j hj he o ho]
def nvV (C : CT) (q1 q2 q3 : Nat) : VRec := vMk q2 q1 q3 (lsN C) ((lgL (k_kin C) (va_cpy (lsL C) (k_row C) (0) (0) (lsN C)) (meL (k_kin C) (va_cpy (lsL C) (k_row C) (0) (0) (lsN C)) (k_met C) (lsN C)) (k_kis C) (lsN C)).1) 0 0 (lsN C) (k_sn C) (lsL C) (seZ (k_alv C) (k_sn C))
theorem rel_view {cI cZ : ClassId} {C : CT} {VT : Nat → VRec} {RT : Nat → RRec} {M : MT} (h : Rel cI cZ C VT RT M) {q1 q2 q3 : Nat} (hv : k_vc C < 30) (f1 : q1 ∉ k_L C) (f2 : q2 ∉ k_L C ++ [q1]) (f3 : q3 ∉ (k_L C ++ [q1]) ++ [q2]) : Rel cI cZ (vwC cI cZ C q1 q2 q3) (va_up VT (k_vc C) (nvV C q1 q2 q3)) RT (viewM M) := by
  have hsr := fun s => AIc.srs (C := C) (VT := VT) (RT := RT) h.2.2.2.1 h.1.2.2.2.1 s
  obtain ⟨hk, hm, hB⟩ := h
  obtain ⟨p1, p2, ⟨en, esn, evn, ern, epn, enw, eg, ek, es, ed⟩, ro, rv, rr, pp⟩ := id hB
  obtain ⟨h1, h2, h3, h4, h5, h6, h7, h8, h9, h10, h11, h12, h13, h14, h15, h16⟩ := id hk
  obtain ⟨g1, g2, g3, g4, g5, g6, g7, g8, g9, g10, g11, g12, g13, g14, g15, g16, g17, g18, g19, g20⟩ := id hm
  have hls : lsN C ≤ 300 := Nat.le_trans (cnt_le _ _) h1
  have hll : ∀ j, lsL C j < 300 := lsA_lt (by omega) _ h1
  have hE : Enu ltB (stF (k_home C) (k_drp C)) (k_n C) (lsL C) (lsN C) := lsA_enu _ _
  have hr0 : ∀ i, i < lsN C → va_cpy (lsL C) (k_row C) (0) (0) (lsN C) i = lsL C i := fun i hi => by rw [pk_cpy_in (Nat.zero_le _) (by omega)]; simp
  have hE0 : Enu ltB (stF (k_home C) (k_drp C)) (k_n C) (va_cpy (lsL C) (k_row C) (0) (0) (lsN C)) (lsN C) := hE.congr (fun i hi => hr0 i hi) (fun _ _ => rfl) (fun _ _ _ _ _ _ => rfl)
  obtain ⟨e9, s1, _, _⟩ := lgL_sel (kin := k_kin C) (row := va_cpy (lsL C) (k_row C) (0) (0) (lsN C)) (met := meL (k_kin C) (va_cpy (lsL C) (k_row C) (0) (0) (lsN C)) (k_met C) (lsN C)) (kis := k_kis C) (c := lsN C) (fun i hi => meL_at _ i hi) (lsN C) (Nat.le_refl _)
  have hgc := lg_count hE0 s1 (fun o ho _ => Nat.lt_of_le_of_lt (kin_le ro.2.2.2.2.2.2.1 ho) ho)
  have hgl := lgL_le (k_kin C) (va_cpy (lsL C) (k_row C) (0) (0) (lsN C)) (meL (k_kin C) (va_cpy (lsL C) (k_row C) (0) (0) (lsN C)) (k_met C) (lsN C)) (k_kis C) (lsN C)
  obtain ⟨hnew1, hnew2, hnew3⟩ := rv.2 (k_vc C) (Nat.le_refl _) hv
  unfold viewM
  rw [if_neg (by omega)]
  have hst : ∀ o, o < k_n C → pStand M o = stF (k_home C) (k_drp C) o := fun o ho => by rw [ed]; exact ro.stand ho
  have hin : ∀ o, o < 300 → vwH M (m_n M) (300 * k_vc C + o) = (decide (o < k_n C) && stF (k_home C) (k_drp C) o) := fun o ho => by
    rw [evn, vwH_new, ← evn, hnew2 o ho, Bool.or_false, ← en]
    by_cases e : o < k_n C
    · rw [hst o e]
    · simp [e]
  have hse : ∀ q, q < 40 → vwS M (m_n M) (40 * k_vc C + q) = (decide (q < k_sn C) && seZ (k_alv C) (k_sn C) q) := fun q hq => by
    rw [evn, vwS_new, ← evn, hnew3 q hq, Bool.or_false, ← en, seZ_at]
    by_cases e : q < k_sn C
    · have ha := ro.2.2.2.2.2.1 q e
      by_cases f : 0 < k_alv C q
      · rw [decide_eq_true e, decide_eq_true f]
        rcases Classical.em (∃ o, o < k_n C ∧ pLv (k_home C) (m_drp M) q o = true) with ⟨o, ho, hp⟩ | hno
        · refine anyB_iff.mpr ⟨o, ho, ?_⟩
          unfold pLv at hp
          simp only [Bool.and_eq_true, decide_eq_true_eq, Bool.not_eq_true'] at hp
          rw [hst o ho, ← ro.1 o ho, hp.1]
          unfold stF
          rw [hp.1, ed, hp.2]
          have a1 : ¬ ((q : Int) = -1) := by omega
          simp [a1]
        · have : cnt (pLv (k_home C) (m_drp M) q) (k_n C) = 0 := cnt_zero (fun o ho => by
            cases z : pLv (k_home C) (m_drp M) q o with
            | false => rfl
            | true => exact absurd ⟨o, ho, z⟩ hno)
          omega
      · rw [decide_eq_false f]
        simp only [Bool.and_false]
        cases z : anyB (fun o => pStand M o && decide ((m_seg M o).toNat = q)) (k_n C) with
        | false => rfl
        | true =>
          exfalso
          obtain ⟨o, ho, hp⟩ := anyB_iff.mp z
          simp only [Bool.and_eq_true, decide_eq_true_eq] at hp
          have hs9 := hp.1
          rw [hst o ho] at hs9
          unfold stF at hs9
          simp only [Bool.and_eq_true, decide_eq_true_eq, Bool.not_eq_true'] at hs9
          have hb := ro.2.2.2.2.1 o ho
          have h7' := hp.2
          rw [← ro.1 o ho] at h7'
          refine f ?_
          rw [ha]
          refine cnt_pos ho ?_
          unfold pLv
          rw [← ed, hs9.2, show k_home C o = (q : Int) by omega]
          simp
    · rw [decide_eq_false e]
      simp only [Bool.false_and]
      cases z : anyB (fun o => pStand M o && decide ((m_seg M o).toNat = q)) (k_n C) with
      | false => rfl
      | true =>
        exfalso
        obtain ⟨o, ho, hp⟩ := anyB_iff.mp z
        simp only [Bool.and_eq_true, decide_eq_true_eq] at hp
        have hs9 := hp.1
        rw [hst o ho] at hs9
        unfold stF at hs9
        simp only [Bool.and_eq_true, decide_eq_true_eq, Bool.not_eq_true'] at hs9
        have hb := ro.2.2.2.2.1 o ho
        have h7' := hp.2
        rw [← ro.1 o ho] at h7'
        omega
  have hold : ∀ v, v ≠ k_vc C → ∀ o, o < 300 → vwH M (m_n M) (300 * v + o) = m_has M (300 * v + o) := fun v hne o ho => vwH_old M _ (fun o' ho' => by omega)
  have holS : ∀ v, v ≠ k_vc C → ∀ q, q < 40 → vwS M (m_n M) (40 * v + q) = m_sees M (40 * v + q) := fun v hne q hq => vwS_old M _ (fun o' ho' => by have := ro.2.2.2.2.1 o' (by omega); have := ro.1 o' (by omega); omega)
  refine ⟨?_, ?_, ?_⟩
  · unfold vwC
    exact ⟨h1, h2, h3, hv, h5, h6, h7, hls, h9, h10, h11, fun j => by rw [mkC_srs, seS_at]; have := hsr j; split <;> omega, fun j => cpy_lt (fun j _ => hll j) h13 j, h14, lgL_lt h10 h15 _, h16⟩
  · exact ⟨g1, g2, by show m_vn M + 1 ≤ 30; omega, g4, g5, g6, g7, g8, g9, g10, g11, g12, g13, g14, g15, g16, g17, g18, g19, g20⟩
  · unfold vwC
    rw [mkC_n, mkC_fn, mkC_sn, mkC_vc, mkC_rc, mkC_pc, mkC_nw, mkC_grp, mkC_key, mkC_srt, mkC_home, mkC_drp, mkC_kin, mkC_alv, mkC_srs, mkC_pg, mkC_vq, mkC_rq, mkC_L, mkC_F]
    rw [mk_n, mk_sn, mk_vn, mk_rn, mk_pn, mk_nw, mk_grp, mk_key, mk_srt, mk_drp, mk_seg, mk_isN, mk_st, mk_has, mk_sees, mk_vo, mk_ko, mk_sl, mk_sc, mk_kp, mk_en, mk_sd, mk_go, mk_isC, mk_isG, mk_ov, mk_la, mk_pg]
    have hne : ∀ i, i < k_vc C → (VT i).q ≠ q2 := fun i hi e => f2 (List.mem_append_left _ (by rw [← e]; exact (p1.1 i hi).2.1.1))
    refine ⟨?_, ?_, ⟨en, esn, by rw [evn], ern, epn, enw, eg, ek, es, ed⟩, ro, ⟨fun v hv9 => ?_, fun v h1 h2 => ?_⟩, rr.has (fun j hj _ o ho => hold _ (by have := p2.2.2.1 j hj; omega) o (by omega)), pp⟩
    · have a1 := p1.push f1 (.inl (cI, lsN C, .inl (fun j => nI ((lsL C) j))))
      have a2 := a1.push f2 (.inr (4, [.null, .null, .int (nI (0)), .int (nI (0)), .int (nI (0)), .int (nI (0))]))
      have a3 := a2.push f3 (.inl (cZ, k_sn C, .inl (fun j => bI ((seZ (k_alv C) (k_sn C)) j))))
      have n13 : q1 ≠ q3 := fun e => f3 (by rw [← e]; simp)
      have n23 : q2 ≠ q3 := fun e => f3 (by rw [← e]; simp)
      have n12 : q1 ≠ q2 := fun e => f2 (by rw [← e]; simp)
      -- writing the new view leaves the old ones alone
      have a4 : PQ cI cZ (k_vc C) (k_rc C) (k_vq C) (k_rq C) (k_L C ++ [q1] ++ [q2] ++ [q3]) (va_up (va_up (va_up (va_up (k_F C) q1 (.inl (cI, lsN C, .inl (fun j => nI ((lsL C) j))))) q2 (.inr (4, [.null, .null, .int (nI (0)), .int (nI (0)), .int (nI (0)), .int (nI (0))]))) q3 (.inl (cZ, k_sn C, .inl (fun j => bI ((seZ (k_alv C) (k_sn C)) j))))) q2 (vE (nvV C q1 q2 q3))) VT RT := by
        refine ⟨fun i hi => ?_, fun j hj => ?_, a3.2.2.1, a3.2.2.2⟩
        · obtain ⟨b0, b1, b2, b3, b4⟩ := a3.1 i hi
          obtain ⟨_, c1, c2, c3, _⟩ := p1.1 i hi
          exact ⟨b0, isE.keep b1 (fun e => f2 (List.mem_append_left _ (e ▸ c1.1))), isE.keep b2 (fun e => f2 (List.mem_append_left _ (e ▸ c2.1))), isE.keep b3 (fun e => f2 (List.mem_append_left _ (e ▸ c3.1))), b4⟩
        · obtain ⟨b0, b1, b2, b3⟩ := a3.2.1 j hj
          obtain ⟨_, c1, c2, _⟩ := p1.2.1 j hj
          exact ⟨b0, isE.keep b1 (fun e => f2 (List.mem_append_left _ (e ▸ c1.1))), isE.keep b2 (fun e => f2 (List.mem_append_left _ (e ▸ c2.1))), b3⟩
      refine a4.addV (V := nvV C q1 q2 q3) ⟨⟨show q2 ∈ k_L C ++ [q1] ++ [q2] ++ [q3] by simp, va_up_self _ _ _⟩, ⟨show q1 ∈ k_L C ++ [q1] ++ [q2] ++ [q3] by simp, ?_⟩, ⟨show q3 ∈ k_L C ++ [q1] ++ [q2] ++ [q3] by simp, ?_⟩, Nat.le_refl _, hls, Nat.le_trans hgl hls, by show 0 ≤ 2; omega, by show 0 ≤ 60; omega, hll, h3⟩ (fun i hi => hne i hi)
      · show va_up _ _ _ q1 = _
        rw [va_up_ne _ _ n12, va_up_ne _ _ n13, va_up_ne _ _ n12, va_up_self]; rfl
      · show va_up _ _ _ q3 = _
        rw [va_up_ne _ _ (Ne.symm n23), va_up_self]; rfl
    · obtain ⟨i1, i2, i3, i4⟩ := p2
      refine ⟨fun i hi => ?_, fun s => ?_, fun j hj => Nat.lt_succ_of_lt (i3 j hj), fun i hi => ?_⟩
      · by_cases e : i = k_vc C
        · subst e; rw [va_up_self]
          symm
          refine cnt_zero (fun j hj => ?_)
          have := i3 j hj
          unfold pRd
          simp [show ¬ (RT j).v = k_vc C by omega]
        · rw [va_up_ne _ _ e]; exact i1 i (by omega)
      · rw [seS_at]
        simp only [cnt]
        rw [i2 s]
        congr 1
        · exact cnt_congr (fun i hi => by unfold pSe; rw [va_up_ne _ _ (show i ≠ k_vc C by omega)])
        · unfold pSe
          rw [va_up_self]
          show _ = if (decide ((0 : Nat) ≠ 2) && (decide (s < k_sn C) && seZ (k_alv C) (k_sn C) s)) = true then 1 else 0
          rw [seZ_at]
          by_cases e : s < k_sn C <;> by_cases f : 0 < k_alv C s <;> simp [e, f]
      · by_cases e : i = k_vc C
        · subst e; rw [va_up_self]
          exact ⟨Nat.le_refl _, fun z => absurd (show (0 : Nat) = 1 from z) (by omega), fun z => absurd (show (0 : Nat) = 2 from z) (by omega), fun _ => rfl, by show 0 ≤ 2; omega⟩
        · rw [va_up_ne _ _ e]; exact i4 i (by omega)
    · by_cases e : v = k_vc C
      · subst e
        rw [va_up_self]
        refine ⟨hnew1, ?_, ?_, fun o h1 h2 => by rw [hin o h2]; simp [show ¬ o < k_n C by omega], fun q hq => hse q hq⟩
        · exact hE.congr (fun _ _ => rfl) (fun o ho => by rw [hin o (by omega)]; simp [ho]) (fun _ _ _ _ _ _ => rfl)
        · show _ = gcF _ _ _
          rw [gcF_congr (Q := stF (k_home C) (k_drp C)) (fun o ho => by rw [hin o (by omega)]; simp [ho]), hgc]
          rfl
      · exact RelV.has h1 (hold v e) (holS v e) rfl (va_up_ne _ _ e) (rv.1 v (by omega))
    · obtain ⟨z1, z2, z3⟩ := rv.2 v (by omega) h2
      exact ⟨z1, fun o ho => by rw [hold v (by omega) o ho]; exact z2 o ho, fun q hq => by rw [holS v (by omega) q hq]; exact z3 q hq⟩
