/-! what is asked of a view -/
section Views
variable {cI cZ : ClassId} {C : CT} {VT : Nat → VRec} {RT : Nat → RRec} {M : MT}
theorem Rel.vw (h : Rel cI cZ C VT RT M) {v : Nat} (hv : v < k_vc C) : Enu ltB (m_in M v) (m_n M) (VT v).f (VT v).c ∧ (VT v).c ≤ 300 ∧ (VT v).g = gcF (k_kin C) (m_in M v) (m_n M) ∧ KinOk (m_grp M) (k_kin C) (m_n M) ∧ m_st M v = (VT v).st ∧ (VT v).g = groupCount M v ∧ sizeOf M v = (VT v).c := by
  obtain ⟨hk, hm, hB⟩ := h
  obtain ⟨p1, p2, ⟨en, esn, evn, ern, epn, enw, eg, ek, es, ed⟩, ro, rv, rr, pp⟩ := id hB
  obtain ⟨a1, a2, a3, a4, a5⟩ := rv.1 v hv
  obtain ⟨_, _, _, _, b1, b2, _⟩ := p1.1 v hv
  have hc : (VT v).c ≤ 300 := by omega
  have ek9 : KinOk (m_grp M) (k_kin C) (m_n M) := by rw [← en]; exact ro.2.2.2.2.2.2.1
  have e2 : Enu ltB (m_in M v) (m_n M) (VT v).f (VT v).c := by rw [← en]; exact a2
  have e3 : (VT v).g = gcF (k_kin C) (m_in M v) (m_n M) := by rw [← en]; exact a3
  exact ⟨e2, hc, e3, ek9, a1, by rw [e3]; exact (group_count e2 hc ek9 es ek).symm, e2.count ltB_sto⟩
theorem Rel.rkE (h : Rel cI cZ C VT RT M) {v : Nat} (hv : v < k_vc C) (kd : Nat) (sd : Int64) : Enu (ahF (m_srt M) (m_key M) kd sd) (m_in M v) (m_n M) (k_row (rkM C (VT v).f (VT v).c kd sd)) (VT v).c := by
  have hw := h.vw hv
  have := rk_enu (C := C) (kd := kd) (sd := sd) hw.2.1 hw.1
  rw [h.2.2.2.2.1.2.2.2.2.2.2.2.2.1, h.2.2.2.2.1.2.2.2.2.2.2.2.1] at this
  exact this
/-- group k by a kind: its first object, its row -/
theorem Rel.grpE (h : Rel cI cZ C VT RT M) {v : Nat} (hv : v < k_vc C) (kd : Nat) (sd : Int64) {k : Nat} (hk : k < (VT v).g) : ∃ l, l < m_n M ∧ leaderM M v kd sd k = ((l : Nat) : Int) ∧ isFirstB M v l kd sd = true ∧ k < (lgR (rkM C (VT v).f (VT v).c kd sd)).1 ∧
    Enu (ahF (m_srt M) (m_key M) kd sd) (fun o => m_in M v o && decide (m_grp M o = m_grp M l)) (m_n M) (k_row (ngM (rkM C (VT v).f (VT v).c kd sd) k)) (k_kc (ngM (rkM C (VT v).f (VT v).c kd sd) k)) := by
  obtain ⟨w1, w2, w3, w4, _⟩ := h.vw hv
  have hr := h.rkE hv kd sd
  have hkin : k_kin (rkM C (VT v).f (VT v).c kd sd) = k_kin C := rkM_kin
  have hkc : k_kc (rkM C (VT v).f (VT v).c kd sd) = (VT v).c := rkM_kc C _ _ _ _
  generalize rkM C (VT v).f (VT v).c kd sd = B at hr hkin hkc ⊢
  have hr' : Enu (ahF (m_srt M) (m_key M) kd sd) (m_in M v) (m_n M) (k_row B) (k_kc B) := by rw [hkc]; exact hr
  obtain ⟨e, g1, g2, g3⟩ := lg_at hr' hkc (fun o ho _ => by rw [hkin]; exact Nat.lt_of_le_of_lt (kin_le w4 ho) ho)
  rw [hkin] at g1 g3
  have hkl : k < (lgR B).1 := by rw [← g3, ← w3]; exact hk
  have hle := lead_enu hr w4 g1
  have h1 := hle.1 k hkl
  refine ⟨k_row B (e k), h1.1, leader_at hr w4 g1 hkl, h1.2, hkl, ng_enu hr' (by rw [hkin]; exact w4) h1.1 (g2 k hkl)⟩
theorem Rel.grpN (h : Rel cI cZ C VT RT M) {v : Nat} (hv : v < k_vc C) (kd : Nat) (sd : Int64) {k : Nat} (hk : k < (VT v).g) : 0 < k_kc (ngM (rkM C (VT v).f (VT v).c kd sd) k) := by
  obtain ⟨l, hl, _, hf, _, hE⟩ := h.grpE hv kd sd hk
  have hin : m_in M v l = true := by unfold isFirstB at hf; simp only [Bool.and_eq_true] at hf; exact hf.1
  obtain ⟨i, hi, _⟩ := hE.2.2 l hl (by simp [hin])
  omega
theorem Rel.ci (h : Rel cI cZ C VT RT M) : CI cI cZ C VT RT := by
  have hg := fun i hi kd sd k9 => fun (_ : kd < 3) (hk : k9 < (VT i).g) => And.intro (h.grpE (v := i) hi kd sd hk).choose_spec.2.2.2.1 (h.grpN hi kd sd hk)
  obtain ⟨hk, hm, hB⟩ := h
  obtain ⟨p1, p2, ⟨en, esn, evn, ern, epn, enw, eg, ek, es, ed⟩, ro, rv, rr, pp⟩ := id hB
  refine ⟨hk, p1, p2, fun i hi h1 h2 => ?_, fun i hi kd sd k9 h1 h2 => hg i hi kd sd k9 h1 h2⟩
  have hb := ro.2.2.2.2.1 i hi
  rw [ro.2.2.2.2.2.1 _ (by omega)]
  refine cnt_pos hi ?_
  unfold pLv
  rw [← ed, h2]
  have : k_home C i = ((k_home C i).toNat : Int) := by omega
  simp [← this]
theorem vT_ok (h : Rel cI cZ C VT RT M) {i : Nat} (hi : i < k_vc C) : (nI i).toInt = (i : Int) ∧ ix (nI i) = i ∧ ¬ ((nI i).toInt < 0 ∨ ((m_vn M : Nat) : Int) ≤ (nI i).toInt) := by
  obtain ⟨z, x⟩ := nIx hi (by have := h.1.2.2.2.1; omega)
  refine ⟨z, x, ?_⟩
  have := h.2.2.2.2.1.2.2.1
  rw [z]; omega
theorem vT_bad (h : Rel cI cZ C VT RT M) {x : Int32} (hb : bdX x (k_vc C)) : x.toInt < 0 ∨ ((m_vn M : Nat) : Int) ≤ x.toInt := by
  have := h.2.2.2.2.1.2.2.1
  unfold bdX at hb
  rw [this] at hb
  exact hb
theorem kd_ok {kd : Nat} (hk : kd < 3) : (nI kd).toInt = (kd : Int) ∧ ix (nI kd) = kd ∧ ¬ ((nI kd).toInt < 0 ∨ 3 ≤ (nI kd).toInt) := by
  obtain ⟨z, x⟩ := nIx hk (by omega)
  exact ⟨z, x, by rw [z]; omega⟩
theorem rel_hit (h : Rel cI cZ C VT RT M) {i kd k9 : Nat} {sd : Int64} (hi : i < k_vc C) (hk9 : k9 < (VT i).c) (hkd : kd < 3) : hitT M (nI i) (nI kd) (nI k9) = 0 ∧ hitR M (nI i) (nI kd) sd (nI k9) = nI (k_row (rkM C (VT i).f (VT i).c kd sd) k9) ∧ fstB (hitP M (ix (nI i)) (ix (nI kd)) sd (ix (nI k9))) (m_n M) < m_n M := by
  obtain ⟨z1, x1, n1⟩ := vT_ok h hi
  obtain ⟨z2, x2, n2⟩ := kd_ok hkd
  have hw := h.vw hi
  obtain ⟨z3, x3⟩ := nIx hk9 (by omega)
  have hE := h.rkE hi kd sd
  have hh := hit_at hE hk9
  unfold hitT hitR
  rw [x1, x2, x3, hw.2.2.2.2.2.2]
  have hc : ¬ (((nI i).toInt < 0 ∨ ((m_vn M : Nat) : Int) ≤ (nI i).toInt) ∨ (nI k9).toInt < 0 ∨ (((VT i).c : Nat) : Int) ≤ (nI k9).toInt) := fun q => q.elim n1 (by rw [z3]; omega)
  rw [if_neg hc, if_neg hc, if_neg n2, if_neg n2, hh]
  exact ⟨rfl, rfl, (hE.1 k9 hk9).1⟩
theorem rel_place (h : Rel cI cZ C VT RT M) {i kd o9 : Nat} {sd : Int64} (hi : i < k_vc C) (ho9 : o9 < k_n C) (hkd : kd < 3) : placeT M (nI i) (nI kd) (nI o9) = 0 ∧ placeR M (nI i) (nI kd) sd (nI o9) = zI (findF (k_row (rkM C (VT i).f (VT i).c kd sd)) (k_kc (rkM C (VT i).f (VT i).c kd sd)) o9) := by
  obtain ⟨z1, x1, n1⟩ := vT_ok h hi
  obtain ⟨z2, x2, n2⟩ := kd_ok hkd
  obtain ⟨z3, x3⟩ := nIx ho9 (by have := h.1.1; omega)
  have en := h.2.2.2.2.1.1
  have hE := h.rkE hi kd sd
  rw [rkM_kc]
  unfold placeT placeR
  rw [x1, x2, x3]
  have hc : ¬ (((nI i).toInt < 0 ∨ ((m_vn M : Nat) : Int) ≤ (nI i).toInt) ∨ ((nI o9).toInt < 0 ∨ ((m_n M : Nat) : Int) ≤ (nI o9).toInt)) := fun q => q.elim n1 (by rw [z3]; omega)
  rw [if_neg hc, if_neg hc, if_neg n2, if_neg n2]
  refine ⟨rfl, ?_⟩
  obtain ⟨f1, f2⟩ := find_at (ahF_sto _ _ _ _) hE (o := o9) (by omega)
  by_cases hp : m_in M i o9 = true
  · obtain ⟨t, ht, e, e'⟩ := f1 hp
    rw [if_pos hp, e', ← e, rankM_at hE ht]
    exact (zI_n _).symm
  · rw [if_neg hp, f2 (by simpa using hp)]
theorem ag_ok (h : Rel cI cZ C VT RT M) {i kd k9 : Nat} (hi : i < k_vc C) (hk9 : k9 < (VT i).g) (hkd : kd < 3) : againstM M (nI i) (nI kd) (nI k9) = 0 ∧ ix (nI i) = i ∧ ix (nI kd) = kd ∧ ix (nI k9) = k9 := by
  obtain ⟨z1, x1, n1⟩ := vT_ok h hi
  obtain ⟨z2, x2, n2⟩ := kd_ok hkd
  have hw := h.vw hi
  have hg3 : (VT i).g ≤ 300 := by
    have := (h.2.2.1.1 i hi).2
    exact this.2.2.2.2.2.1
  obtain ⟨z3, x3⟩ := nIx hk9 (by omega)
  have hvn := h.2.2.2.2.1.2.2.1
  refine ⟨?_, x1, x2, x3⟩
  unfold againstM
  rw [show (nI i).toInt.toNat = i by rw [z1]; omega, ← hw.2.2.2.2.2.1, z1, z2, z3]
  rw [if_neg (by omega), if_neg (by omega)]
theorem rel_group (h : Rel cI cZ C VT RT M) {i kd k9 : Nat} {sd : Int64} (hi : i < k_vc C) (hk9 : k9 < (VT i).g) (hkd : kd < 3) : againstM M (nI i) (nI kd) (nI k9) = 0 ∧ 0 ≤ leaderM M (ix (nI i)) (ix (nI kd)) sd (ix (nI k9)) ∧ groupR M (nI i) (nI kd) sd (nI k9) = k_grp (ngM (rkM C (VT i).f (VT i).c kd sd) k9) (k_row (ngM (rkM C (VT i).f (VT i).c kd sd) k9) 0) ∧ countedR M (nI i) (nI kd) sd (nI k9) = nI (k_kc (ngM (rkM C (VT i).f (VT i).c kd sd) k9)) := by
  obtain ⟨a, x1, x2, x3⟩ := ag_ok h hi hk9 hkd
  obtain ⟨l, hl, hL, hf, _, hE⟩ := h.grpE hi kd sd hk9
  have hpos := h.grpN hi kd sd hk9
  have heg := h.2.2.2.2.1.2.2.2.2.2.2.1
  unfold groupR countedR
  rw [a, x1, x2, x3, hL, ngM_grp, rkM_grp, heg]
  refine ⟨rfl, by omega, ?_, ?_⟩
  · rw [if_neg (by omega)]
    have := (hE.1 0 hpos).2
    simp only [Bool.and_eq_true, decide_eq_true_eq] at this
    rw [this.2]
    rfl
  · rw [if_neg (by omega)]
    have := hE.count (ahF_sto _ _ _ _)
    rw [← this]
    rfl
theorem rel_best (h : Rel cI cZ C VT RT M) {i kd k9 : Nat} {sd : Int64} (hi : i < k_vc C) (hk9 : k9 < (VT i).g) (hkd : kd < 3) : countIn M (ix (nI i)) (m_grp M (leaderM M (ix (nI i)) (ix (nI kd)) sd (ix (nI k9))).toNat) = k_kc (ngM (rkM C (VT i).f (VT i).c kd sd) k9) ∧ ∀ j, j < k_kc (ngM (rkM C (VT i).f (VT i).c kd sd) k9) → bstI M (ix (nI i)) (ix (nI kd)) sd (leaderM M (ix (nI i)) (ix (nI kd)) sd (ix (nI k9))) j = ((k_row (ngM (rkM C (VT i).f (VT i).c kd sd) k9) j : Nat) : Int) := by
  obtain ⟨a, x1, x2, x3⟩ := ag_ok h hi hk9 hkd
  obtain ⟨l, hl, hL, hf, _, hE⟩ := h.grpE hi kd sd hk9
  rw [x1, x2, x3, hL]
  have hln : ((l : Nat) : Int).toNat = l := by omega
  rw [hln]
  refine ⟨hE.count (ahF_sto _ _ _ _), ?_⟩
  generalize k_row (ngM (rkM C (VT i).f (VT i).c kd sd) k9) = row at hE ⊢
  generalize k_kc (ngM (rkM C (VT i).f (VT i).c kd sd) k9) = c at hE ⊢
  have hS := ahF_sto (m_srt M) (m_key M) kd sd
  have hF : Enu (aheadB M kd sd) (pFol M i true (m_grp M l) 0 0) (m_n M) row c := by
    rw [aheadB_eq]
    refine hE.congr (fun _ _ => rfl) (fun o _ => ?_) (fun _ _ _ _ _ _ => rfl)
    unfold pFol; simp
  have h0 : 0 < c → row 0 = l := by
    intro hc
    have hf' := hf
    unfold isFirstB at hf'
    simp only [Bool.and_eq_true] at hf'
    obtain ⟨t, ht, et⟩ := hE.2.2 l hl (by simp [hf'.1])
    rcases Nat.eq_zero_or_pos t with z | z
    · rw [← et, z]
    · exfalso
      have h1 := hE.2.1 0 t z ht
      rw [et] at h1
      have h2 := hE.1 0 hc
      have h3 := allF_iff.mp hf'.2 (row 0) h2.1
      simp only [Bool.and_eq_true, decide_eq_true_eq] at h2
      unfold pOwn at h3
      rw [h2.2.1, aheadB_eq, h1, decide_eq_true h2.2.2] at h3
      exact absurd h3 (by decide)
  intro j
  induction j with
  | zero => intro hj; rw [h0 hj]; rfl
  | succ j ih =>
    intro hj
    simp only [bstI]
    rw [ih (by omega)]
    have hjn : ((row j : Nat) : Int).toNat = row j := by omega
    rw [hjn]
    have hg := (hE.1 j (by omega)).2
    simp only [Bool.and_eq_true, decide_eq_true_eq] at hg
    rw [hg.2]
    have := following_at hF (k := j + 1) (by omega)
    unfold laK nxK at this
    rw [if_neg (by omega), if_pos hj, Nat.add_sub_cancel] at this
    exact this
end Views
