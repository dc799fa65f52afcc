/-! the beginning; a view more; what the reference's methods want -/
def iniC (ra rb : Nat) (F : Nat → va_E) : CT := (mkC (ra) (rb) (0) (0) (0) (0) (0) (0) (0) (0) (fun _ => 0) (fun _ => 0) (fun _ => 0) (fun _ => 0) (fun _ => 0) (fun _ => false) (fun _ => false) (fun _ => 0) (fun _ => 0) (fun _ => 0) (fun _ => 0) (fun _ => 0) (fun _ => 0) (fun _ => 0) (fun _ => none) (fun _ => none) ([]) (F))
def iniM : MT := (mkM (0) (0) (0) (0) (0) (0) (fun _ => 0) (fun _ => 0) (fun _ => 0) (fun _ => 0) (fun _ => 0) (fun _ => 0) (fun _ => 0) (fun _ => false) (fun _ => false) (fun _ => false) (fun _ => false) (fun _ => false) (fun _ => false) (fun _ => false) (fun _ => 0) (fun _ => 0) (fun _ => 0) (fun _ => 0) (fun _ => 0) (fun _ => 0) (fun _ => 0) (fun _ => 0))
theorem rel_ini (cI cZ : ClassId) (ra rb : Nat) (F : Nat → va_E) (VT : Nat → VRec) (RT : Nat → RRec) : Rel cI cZ (iniC ra rb F) VT RT iniM := by
  unfold iniC iniM
  refine ⟨?_, ?_, ?_⟩
  · refine ⟨Nat.zero_le _, Nat.le_refl _, Nat.zero_le _, Nat.zero_le _, Nat.zero_le _, Nat.zero_le _, Nat.zero_le _, Nat.zero_le _, fun j => ?_, fun j => ?_, fun j => ?_, fun j => ?_, fun j => ?_, fun j => ?_, fun j => ?_, fun j => ?_⟩
    · rw [mkC_home]; decide
    · rw [mkC_kin]; decide
    · rw [mkC_alv]; decide
    · rw [mkC_srs]; decide
    · rw [mkC_row]; decide
    · rw [mkC_sp]; decide
    · rw [mkC_kis]; decide
    · rw [mkC_pg]; decide
  · refine ⟨Nat.zero_le _, Nat.zero_le _, Nat.zero_le _, Nat.zero_le _, Nat.zero_le _, Nat.zero_le _, fun j => ?_, fun j => ?_, fun j => ?_, fun j => ?_, fun j => ?_, fun j => ?_, fun j => ?_, fun j => ?_, fun j => ?_, fun j => ?_, fun j => ?_, fun j => ?_, fun j => ?_, fun j => ?_⟩
    · rw [mk_seg]; decide
    · rw [mk_la]; decide
    · rw [mk_st]; decide
    · rw [mk_vo]; decide
    · rw [mk_ko]; decide
    · rw [mk_sl]; decide
    · rw [mk_sc]; decide
    · rw [mk_kp]; decide
    · rw [mk_en]; decide
    · rw [mk_pg]; decide
    · rw [mk_vo]; decide
    · rw [mk_ko]; decide
    · rw [mk_sl]; decide
    · rw [mk_sc]; decide
  · rw [mkC_n, mkC_fn, mkC_sn, mkC_vc, mkC_rc, mkC_pc, mkC_nw, mkC_grp, mkC_key, mkC_srt, mkC_home, mkC_drp, mkC_kin, mkC_alv, mkC_srs, mkC_pg, mkC_vq, mkC_rq, mkC_L, mkC_F]
    rw [mk_n, mk_sn, mk_vn, mk_rn, mk_pn, mk_nw, mk_grp, mk_key, mk_srt, mk_drp, mk_seg, mk_isN, mk_st, mk_has, mk_sees, mk_vo, mk_ko, mk_sl, mk_sc, mk_kp, mk_en, mk_sd, mk_go, mk_isC, mk_isG, mk_ov, mk_la, mk_pg]
    exact ⟨⟨fun i hi => absurd hi (Nat.not_lt_zero _), fun i hi => absurd hi (Nat.not_lt_zero _), fun i _ hi => absurd hi (Nat.not_lt_zero _), fun i _ hi => absurd hi (Nat.not_lt_zero _)⟩, ⟨fun i hi => absurd hi (Nat.not_lt_zero _), fun _ => rfl, fun i hi => absurd hi (Nat.not_lt_zero _), fun i hi => absurd hi (Nat.not_lt_zero _)⟩, ⟨rfl, rfl, rfl, rfl, rfl, rfl, rfl, rfl, rfl, rfl⟩, ⟨fun i hi => absurd hi (Nat.not_lt_zero _), fun o => by simp, Nat.le_refl _, fun o _ hi => absurd hi (Nat.not_lt_zero _), fun o hi => absurd hi (Nat.not_lt_zero _), fun o hi => absurd hi (Nat.not_lt_zero _), fun o hi => absurd hi (Nat.not_lt_zero _), fun _ _ => rfl⟩, ⟨fun i hi => absurd hi (Nat.not_lt_zero _), fun _ _ _ => ⟨rfl, fun _ _ => rfl, fun _ _ => rfl⟩⟩, ⟨fun i hi => absurd hi (Nat.not_lt_zero _), fun _ _ _ => ⟨rfl, rfl⟩⟩, fun i hi => absurd hi (Nat.not_lt_zero _)⟩
section Answers4
variable {cI cJ cZ cV cR : ClassId} {C : CT} {VT : Nat → VRec} {RT : Nat → RRec} {M : MT}
theorem J_view (h : Rel cI cZ C VT RT M) {rr : Int32} {u : CT} (hD : (30 ≤ k_vc C → rr = zI (-4) ∧ u = C) ∧ (k_vc C < 30 → rr = nI (k_vc C) ∧ ∃ q1 q2 q3 : Nat, q1 ∉ k_L C ∧ q2 ∉ k_L C ++ [q1] ∧ q3 ∉ (k_L C ++ [q1]) ++ [q2] ∧ u = vwC cI cZ C q1 q2 q3)) : rr = viewR M ∧ ∃ VT' RT', Rel cI cZ u VT' RT' (viewM M) := by
  have evn := h.2.2.2.2.1.2.2.1
  have hv := h.1.2.2.2.1
  rcases Nat.lt_or_ge (k_vc C) 30 with g | g
  · obtain ⟨e1, q1, q2, q3, f1, f2, f3, e2⟩ := hD.2 g
    exact ⟨by rw [e1]; unfold viewR; rw [if_neg (by omega), evn], _, _, by rw [e2]; exact rel_view h g f1 f2 f3⟩
  · obtain ⟨e1, e2⟩ := hD.1 g
    exact ⟨by rw [e1]; unfold viewR; rw [if_pos (by omega)], VT, RT, by rw [e2]; unfold viewM; rw [if_pos (by omega)]; exact h⟩
theorem srs_lt (h : Rel cI cZ C VT RT M) : ∀ j, k_srs C j < 1999999999 := fun j => Nat.lt_of_le_of_lt (AIc.srs (C := C) (VT := VT) (RT := RT) h.2.2.2.1 h.1.2.2.2.1 j) (by omega)
/-- a raw number in range is a small one -/
theorem in_ex {x : Int32} {n : Nat} (h : ¬ (x.toInt < 0 ∨ ((n : Nat) : Int) ≤ x.toInt)) : ∃ i, i < n ∧ x = nI i := nI_ex h
theorem P_hit (h : Rel cI cZ C VT RT M) {x y z : Int32} {sd : Int64} (hT : hitT M x y z = 0) : fstB (hitP M (ix x) (ix y) sd (ix z)) (m_n M) < m_n M := by
  have evn := h.2.2.2.2.1.2.2.1
  unfold hitT at hT
  split at hT
  · omega
  · rename_i h1
    split at hT
    · omega
    · rename_i h2
      obtain ⟨i, hi, rfl⟩ := in_ex (x := x) (n := m_vn M) (fun q => h1 (Or.inl q))
      have hi' : i < k_vc C := by omega
      obtain ⟨z1, x1, n1⟩ := vT_ok h hi'
      obtain ⟨kd, hkd, rfl⟩ := in_ex (x := y) (n := 3) h2
      obtain ⟨k9, hk9, rfl⟩ := in_ex (x := z) (n := (VT i).c) (fun q => h1 (Or.inr (by rw [x1, (h.vw hi').2.2.2.2.2.2]; exact q)))
      exact (rel_hit (sd := sd) h hi' hk9 hkd).2.2
theorem P_ag (h : Rel cI cZ C VT RT M) {x y z : Int32} (hT : againstM M x y z = 0) : ∃ i kd k9, i < k_vc C ∧ kd < 3 ∧ k9 < (VT i).g ∧ x = nI i ∧ y = nI kd ∧ z = nI k9 := by
  have evn := h.2.2.2.2.1.2.2.1
  obtain ⟨a1, a2, a3, a4, a5, a6⟩ := against_0 hT
  obtain ⟨i, hi, rfl⟩ := in_ex (x := x) (n := m_vn M) (by omega)
  have hi' : i < k_vc C := by omega
  obtain ⟨z1, x1, n1⟩ := vT_ok h hi'
  obtain ⟨kd, hkd, rfl⟩ := in_ex (x := y) (n := 3) (by omega)
  obtain ⟨k9, hk9, rfl⟩ := in_ex (x := z) (n := (VT i).g) (by rw [(h.vw hi').2.2.2.2.2.1]; rw [x1] at a4; omega)
  exact ⟨i, kd, k9, hi', hkd, hk9, rfl, rfl, rfl⟩
theorem P_grp (h : Rel cI cZ C VT RT M) {x y z : Int32} {sd : Int64} (hT : againstM M x y z = 0) : 0 ≤ leaderM M (ix x) (ix y) sd (ix z) := by
  obtain ⟨i, kd, k9, hi, hkd, hk9, rfl, rfl, rfl⟩ := P_ag h hT
  exact (rel_group (sd := sd) h hi hk9 hkd).2.1
theorem P_best (h : Rel cI cZ C VT RT M) {x y z w : Int32} {sd : Int64} (hT : againstM M x y z = 0) (hw : w.toInt < ((countIn M (ix x) (m_grp M (leaderM M (ix x) (ix y) sd (ix z)).toNat) : Nat) : Int)) : ∀ i, i ≤ ix w → 0 ≤ bstI M (ix x) (ix y) sd (leaderM M (ix x) (ix y) sd (ix z)) i := by
  obtain ⟨i, kd, k9, hi, hkd, hk9, rfl, rfl, rfl⟩ := P_ag h hT
  obtain ⟨b1, b2⟩ := rel_best (sd := sd) h hi hk9 hkd
  rw [b1] at hw
  have hpos := h.grpN hi kd sd hk9
  intro j hj
  have hjw : j < k_kc (ngM (rkM C (VT i).f (VT i).c kd sd) k9) := by
    unfold ix at hj
    omega
  rw [b2 j hjw]
  omega
theorem P_it (h : Rel cI cZ C VT RT M) {x y z : Int32} {sd : Int64} (hz : 0 ≤ z.toInt) (hT : itT M x y sd z = 0) : 0 ≤ leaderM (it1 M x y sd true) (ix x) (ix y) sd (ix z) := by
  rw [it1_ld]
  refine P_grp h ?_
  unfold itT at hT
  split at hT
  · omega
  · rename_i h1
    split at hT
    · omega
    · rename_i h2
      unfold againstM
      have e : x.toInt.toNat = ix x := rfl
      rw [e]
      rw [if_neg (by omega), if_neg (by omega)]
theorem P_left (h : Rel cI cZ C VT RT M) {x : Int32} (hx : 0 ≤ x.toInt ∧ x.toInt < ((m_rn M : Nat) : Int)) (ho : m_ov M (ix x) = false) : leftK M (ix x) ((RT (ix x)).n - (RT (ix x)).gv) := by
  have ern := h.2.2.2.2.1.2.2.2.1
  obtain ⟨j, hj, rfl⟩ := in_ex (x := x) (n := m_rn M) (by omega)
  have hj' : j < k_rc C := by omega
  obtain ⟨z1, x1, n1⟩ := rT_ok h hj'
  have := (rel_left h hj').2.2 ho
  rw [x1] at this ⊢
  exact this
end Answers4
