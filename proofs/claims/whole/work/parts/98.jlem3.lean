section Answers3
variable {cI cJ cZ cV cR : ClassId} {C : CT} {VT : Nat → VRec} {RT : Nat → RRec} {M : MT}
theorem it1_ld (M : MT) (x y : Int32) (sd sd' : Int64) (b : Bool) (v kd k : Nat) : leaderM (it1 M x y sd b) v kd sd' k = leaderM M v kd sd' k := by
  refine leaderM_eq ?_ ?_ ?_ ?_ ?_ v kd sd' k <;> unfold it1
  · rw [mk_n]
  · rw [mk_has]
  · rw [mk_grp]
  · rw [mk_key]
  · rw [mk_srt]
theorem rel_it0 (h : Rel cI cZ C VT RT M) {i kd q1 q2 : Nat} {sd : Int64} (hi : i < k_vc C) (hkd : kd < 3) (hst : (VT i).st = 0) (hrc : k_rc C < 60) (f1 : q1 ∉ k_L (rkM C (VT i).f (VT i).c kd sd)) (f2 : q2 ∉ k_L (rkM C (VT i).f (VT i).c kd sd) ++ [q1]) :
    ∃ VT' RT', Rel cI cZ (egM (itC cI (rkM C (VT i).f (VT i).c kd sd) (VT i).q (VT i).hs (VT i).se (VT i).c (VT i).g (VT i).st (VT i).r q1 q2) q1 (VT i).q q2 false 0 0 0 false (k_kc (rkM C (VT i).f (VT i).c kd sd)) (VT i).hs (VT i).se (VT i).c (VT i).g (VT i).st ((VT i).r + 1) (VT i).sn (VT i).sf) VT' RT' (itM M (nI i) (nI kd) sd (zI (-1))) ∧ itT M (nI i) (nI kd) sd (zI (-1)) = 0 ∧ itR M (nI i) (nI kd) sd (zI (-1)) = nI (k_rc C) := by
  have hA := ok_rk h hi kd sd
  have hz : (zI (-1)).toInt = -1 := by decide
  have hrcB : k_rc (rkM C (VT i).f (VT i).c kd sd) = k_rc C := rkM_rc
  have hvcB : k_vc (rkM C (VT i).f (VT i).c kd sd) = k_vc C := rkM_vc
  have hkc : k_kc (rkM C (VT i).f (VT i).c kd sd) = (VT i).c := rkM_kc C _ _ _ _
  have hE := h.rkE hi kd sd
  have hR := h.rk hA
  have hr := rel_iter hR (x := nI i) (y := nI kd) (z := zI (-1)) (sd := sd) rfl rfl (by omega) hkd hst (by omega) f1 f2 (by rw [hz]; omega) (by
    rw [hkc]
    refine hE.congr (fun _ _ => rfl) (fun o _ => ?_) (fun _ _ _ _ _ _ => rfl)
    have e : itB (zI (-1)) = false := by decide
    unfold folP
    rw [e]
    simp)
  rw [hrcB] at hr
  exact hr
theorem rel_itg (h : Rel cI cZ C VT RT M) {i kd k9 q1 q2 : Nat} {sd : Int64} (hi : i < k_vc C) (hkd : kd < 3) (hk9 : k9 < (VT i).g) (hst : (VT i).st = 0) (hrc : k_rc C < 60) (f1 : q1 ∉ k_L (ngM (rkM C (VT i).f (VT i).c kd sd) k9)) (f2 : q2 ∉ k_L (ngM (rkM C (VT i).f (VT i).c kd sd) k9) ++ [q1]) :
    ∃ VT' RT', Rel cI cZ (egM (itC cI (ngM (rkM C (VT i).f (VT i).c kd sd) k9) (VT i).q (VT i).hs (VT i).se (VT i).c (VT i).g (VT i).st (VT i).r q1 q2) q1 (VT i).q q2 false 0 0 0 false (k_kc (ngM (rkM C (VT i).f (VT i).c kd sd) k9)) (VT i).hs (VT i).se (VT i).c (VT i).g (VT i).st ((VT i).r + 1) (VT i).sn (VT i).sf) VT' RT' (itM M (nI i) (nI kd) sd (nI k9)) ∧ itT M (nI i) (nI kd) sd (nI k9) = 0 ∧ itR M (nI i) (nI kd) sd (nI k9) = nI (k_rc C) := by
  have hA := ok_rk h hi kd sd
  obtain ⟨z1, x1, n1⟩ := vT_ok h hi
  obtain ⟨z2, x2, n2⟩ := kd_ok hkd
  have hg3 : (VT i).g ≤ 300 := (h.2.2.1.1 i hi).2.2.2.2.2.2.1
  obtain ⟨z3, x3⟩ := nIx hk9 (by omega)
  have hgc := (h.vw hi).2.2.2.2.2.1
  have hrcB : k_rc (ngM (rkM C (VT i).f (VT i).c kd sd) k9) = k_rc C := by rw [ngM_rc, rkM_rc]
  have hvcB : k_vc (ngM (rkM C (VT i).f (VT i).c kd sd) k9) = k_vc C := by rw [ngM_vc, rkM_vc]
  obtain ⟨l, hl, hL, hf, _, hE⟩ := h.grpE hi kd sd hk9
  have hR := (h.rk hA).ng (k9 := k9) (ok_ngM hA)
  have hG : itG M (nI i) (nI kd) sd (nI k9) = m_grp M l := by
    unfold itG
    rw [if_pos (by rw [z3]; omega), it1_ld, x1, x2, x3, hL]
    rfl
  have hr := rel_iter hR (x := nI i) (y := nI kd) (z := nI k9) (sd := sd) rfl rfl (by omega) hkd hst (by omega) f1 f2 (by rw [z3, ← hgc]; omega) (by
    refine hE.congr (fun _ _ => rfl) (fun o _ => ?_) (fun _ _ _ _ _ _ => rfl)
    have e : itB (nI k9) = true := by unfold itB; rw [z3]; exact decide_eq_true (by omega)
    rw [hG]
    unfold folP
    rw [e]
    simp)
  rw [hrcB] at hr
  exact hr
theorem J_cursor (h : Rel cI cZ C VT RT M) {x : Int32} {y : Int32} {sd : Int64} {z : Int32} {w : Int32} {kk : Int32} {ov : Nat → Int64} {rr : Int32} {u : (Nat → Int64) × CT} (hD : D_cursor cI cJ cZ cV cR C VT RT x y sd z w kk ov rr u) : JR cI cZ rr u (curT M x y sd z w kk) ((curR M x y sd z w kk).toInt64) (curM M x y sd z w kk) := by
  have en := h.2.2.2.2.1.1
  have esn := h.2.2.2.2.1.2.1
  have evn := h.2.2.2.2.1.2.2.1
  have ern := h.2.2.2.2.1.2.2.2.1
  have epn := h.2.2.2.2.1.2.2.2.2.1
  have enw := h.2.2.2.2.1.2.2.2.2.2.1
  unfold D_cursor at hD
  rcases hD with ⟨hb, h1, h2, h3⟩ | ⟨i, hi, rfl, hD⟩
  · have hb' := bd_eq evn hb
    refine JR.thr h1 (by unfold curT; rw [if_pos hb']) (by decide) (VT' := VT) (RT' := RT) ?_
    rw [h3]; unfold curM; rw [if_pos hb']; exact h
  obtain ⟨z1, x1, n1⟩ := vT_ok h hi
  have two : ∀ {y z w kk : Int32}, ((y.toInt < 0 ∨ 3 ≤ y.toInt) ∨ z.toInt < 1 ∨ 8 < z.toInt ∨ w.toInt < 0 ∨ z.toInt ≤ w.toInt ∨ kk.toInt < 1 ∨ 1000 < kk.toInt) → rr = nI 2 → u.2 = C → JR cI cZ rr u (curT M (nI i) y sd z w kk) ((curR M (nI i) y sd z w kk).toInt64) (curM M (nI i) y sd z w kk) := by
    intro y z w kk hb h1 h3
    refine JR.thr h1 (by unfold curT; rw [if_neg n1, if_pos hb]) (by decide) (VT' := VT) (RT' := RT) ?_
    rw [h3]; unfold curM; rw [if_neg n1, if_pos hb]; exact h
  rcases hD with ⟨hb, h1, h2, h3⟩ | ⟨kd, hkd, rfl, hD⟩
  · exact two (Or.inl (bd_kd hb)) h1 h3
  obtain ⟨z2, x2, n2⟩ := kd_ok hkd
  rcases hD with ⟨hb, h1, h2, h3⟩ | ⟨m, k, hm1, hm2, hkm, rfl, rfl, hD⟩
  · exact two (Or.inr (by omega)) h1 h3
  obtain ⟨z3, x3⟩ := nIx (show m < 9 by omega) (by omega)
  obtain ⟨z4, x4⟩ := nIx (show k < 9 by omega) (by omega)
  rcases hD with ⟨hb, h1, h2, h3⟩ | ⟨kp, hp1, hp2, rfl, hD⟩
  · exact two (Or.inr (by omega)) h1 h3
  obtain ⟨z5, x5⟩ := nIx (show kp < 1001 by omega) (by omega)
  have hb2 : ¬ (((nI kd).toInt < 0 ∨ 3 ≤ (nI kd).toInt) ∨ (nI m).toInt < 1 ∨ 8 < (nI m).toInt ∨ (nI k).toInt < 0 ∨ (nI m).toInt ≤ (nI k).toInt ∨ (nI kp).toInt < 1 ∨ 1000 < (nI kp).toInt) := fun q => q.elim n2 (by rw [z3, z4, z5]; omega)
  have hst := (h.vw hi).2.2.2.2.1
  rcases hD with ⟨hb, h1, h2, h3⟩ | ⟨hno, h1, r9, h2, h3⟩
  · have hs : ¬ m_st M i = 0 := by rw [hst]; exact hb
    refine JR.thr h1 (by unfold curT; rw [if_neg n1, if_neg hb2, x1, if_neg hs]) (by decide) (VT' := VT) (RT' := RT) ?_
    rw [h3]; unfold curM; rw [if_neg n1, if_neg hb2, x1, if_neg hs]; exact h
  · have hs0 : (VT i).st = 0 := Decidable.not_not.mp hno
    have hs : m_st M i = 0 := by rw [hst]; exact hs0
    have eT : curT M (nI i) (nI kd) sd (nI m) (nI k) (nI kp) = 0 := by unfold curT; rw [if_neg n1, if_neg hb2, x1, if_pos hs]
    have hrl := h.1.2.2.2.2.1
    rcases Nat.lt_or_ge (k_rc C) 60 with g | g
    · obtain ⟨e1, q1, q2, f1, f2, e2⟩ := h3.2 g
      obtain ⟨VT', RT', a1⟩ := rel_cursor h hi hkd hm1 hm2 hkm hp1 hp2 hs0 g f1 f2
      refine JR.ok h1 eT h2 ?_ (by rw [e2]; exact a1)
      rw [e1]; unfold curR; rw [if_neg n1, if_neg hb2, x1, if_pos hs, if_neg (by omega), ern]
    · obtain ⟨e1, e2⟩ := h3.1 g
      refine JR.ok h1 eT h2 ?_ (VT' := VT) (RT' := RT) ?_
      · rw [e1]; unfold curR; rw [if_neg n1, if_neg hb2, x1, if_pos hs, if_pos (by omega)]
      · rw [e2]; unfold curM; rw [if_neg n1, if_neg hb2, x1, if_pos hs, if_pos (by omega)]; exact h
theorem J_iterator (h : Rel cI cZ C VT RT M) {x : Int32} {y : Int32} {sd : Int64} {k : Int32} {ov : Nat → Int64} {rr : Int32} {u : (Nat → Int64) × CT} (hD : D_iterator cI cJ cZ cV cR C VT RT x y sd k ov rr u) : JR cI cZ rr u (itT M x y sd k) ((itR M x y sd k).toInt64) (itM M x y sd k) := by
  have en := h.2.2.2.2.1.1
  have esn := h.2.2.2.2.1.2.1
  have evn := h.2.2.2.2.1.2.2.1
  have ern := h.2.2.2.2.1.2.2.2.1
  have epn := h.2.2.2.2.1.2.2.2.2.1
  have enw := h.2.2.2.2.1.2.2.2.2.2.1
  unfold D_iterator at hD
  rcases hD with ⟨hb, h1, h2, h3⟩ | ⟨i, hi, rfl, hD⟩
  · have hb' := bd_eq evn hb
    refine JR.thr h1 (by unfold itT; rw [if_pos (Or.inl hb')]) (by decide) (VT' := VT) (RT' := RT) ?_
    rw [h3]; unfold itM; rw [if_pos (Or.inl hb')]; exact h
  obtain ⟨z1, x1, n1⟩ := vT_ok h hi
  have hgc := (h.vw hi).2.2.2.2.2.1
  have hst := (h.vw hi).2.2.2.2.1
  have hrl := h.1.2.2.2.2.1
  have hg3 : (VT i).g ≤ 300 := (h.2.2.1.1 i hi).2.2.2.2.2.2.1
  have one : ∀ {y z : Int32}, (z.toInt < -1 ∨ ((groupCount M i : Nat) : Int) ≤ z.toInt) → rr = nI 1 → u.2 = C → JR cI cZ rr u (itT M (nI i) y sd z) ((itR M (nI i) y sd z).toInt64) (itM M (nI i) y sd z) := by
    intro y z hb h1 h3
    have hb' : ((nI i).toInt < 0 ∨ ((m_vn M : Nat) : Int) ≤ (nI i).toInt) ∨ z.toInt < -1 ∨ ((groupCount M (ix (nI i)) : Nat) : Int) ≤ z.toInt := Or.inr (by rw [x1]; exact hb)
    refine JR.thr h1 (by unfold itT; rw [if_pos hb']) (by decide) (VT' := VT) (RT' := RT) ?_
    rw [h3]; unfold itM; rw [if_pos hb']; exact h
  have two : ∀ {y z : Int32}, ¬ (z.toInt < -1 ∨ ((groupCount M i : Nat) : Int) ≤ z.toInt) → (y.toInt < 0 ∨ 3 ≤ y.toInt) → rr = nI 2 → u.2 = C → JR cI cZ rr u (itT M (nI i) y sd z) ((itR M (nI i) y sd z).toInt64) (itM M (nI i) y sd z) := by
    intro y z hz hb h1 h3
    have hb' : ¬ (((nI i).toInt < 0 ∨ ((m_vn M : Nat) : Int) ≤ (nI i).toInt) ∨ z.toInt < -1 ∨ ((groupCount M (ix (nI i)) : Nat) : Int) ≤ z.toInt) := by rw [x1]; exact fun q => q.elim n1 hz
    refine JR.thr h1 (by unfold itT; rw [if_neg hb', if_pos hb]) (by decide) (VT' := VT) (RT' := RT) ?_
    rw [h3]; unfold itM; rw [if_neg hb', if_pos hb]; exact h
  have three : ∀ {y z : Int32}, ¬ (z.toInt < -1 ∨ ((groupCount M i : Nat) : Int) ≤ z.toInt) → ¬ (y.toInt < 0 ∨ 3 ≤ y.toInt) → (VT i).st ≠ 0 → rr = nI 3 → u.2 = C → JR cI cZ rr u (itT M (nI i) y sd z) ((itR M (nI i) y sd z).toInt64) (itM M (nI i) y sd z) := by
    intro y z hz hb hs h1 h3
    have hb' : ¬ (((nI i).toInt < 0 ∨ ((m_vn M : Nat) : Int) ≤ (nI i).toInt) ∨ z.toInt < -1 ∨ ((groupCount M (ix (nI i)) : Nat) : Int) ≤ z.toInt) := by rw [x1]; exact fun q => q.elim n1 hz
    have hs' : ¬ m_st M i = 0 := by rw [hst]; exact hs
    refine JR.thr h1 (by unfold itT; rw [if_neg hb', if_neg hb, x1, if_neg hs']) (by decide) (VT' := VT) (RT' := RT) ?_
    rw [h3]; unfold itM; rw [if_neg hb', if_neg hb, x1, if_neg hs']; exact h
  have full : ∀ {y z : Int32}, ¬ (z.toInt < -1 ∨ ((groupCount M i : Nat) : Int) ≤ z.toInt) → ¬ (y.toInt < 0 ∨ 3 ≤ y.toInt) → (VT i).st = 0 → 60 ≤ k_rc C → itT M (nI i) y sd z = 0 ∧ itR M (nI i) y sd z = zI (-4) ∧ itM M (nI i) y sd z = M := by
    intro y z hz hb hs hr
    have hb' : ¬ (((nI i).toInt < 0 ∨ ((m_vn M : Nat) : Int) ≤ (nI i).toInt) ∨ z.toInt < -1 ∨ ((groupCount M (ix (nI i)) : Nat) : Int) ≤ z.toInt) := by rw [x1]; exact fun q => q.elim n1 hz
    have hs' : m_st M i = 0 := by rw [hst]; exact hs
    unfold itT itR itM
    rw [if_neg hb', if_neg hb', if_neg hb', if_neg hb, if_neg hb, if_neg hb, x1, if_pos hs', if_pos hs', if_pos hs', if_pos (by omega), if_pos (by omega)]
    exact ⟨rfl, rfl, rfl⟩
  rcases hD with ⟨rfl, hD⟩ | ⟨hk1, hD⟩
  · have hz : (zI (-1)).toInt = -1 := by decide
    have hz' : ¬ ((zI (-1)).toInt < -1 ∨ ((groupCount M i : Nat) : Int) ≤ (zI (-1)).toInt) := by rw [hz]; omega
    rcases hD with ⟨hb, h1, h2, h3⟩ | ⟨kd, hkd, rfl, hD⟩
    · exact two hz' (bd_kd hb) h1 h3
    obtain ⟨z2, x2, n2⟩ := kd_ok hkd
    rcases hD with ⟨hb, h1, h2, h3⟩ | ⟨hno, h1, r9, h2, h3⟩
    · exact three hz' n2 hb h1 h3
    · have hs0 : (VT i).st = 0 := Decidable.not_not.mp hno
      rcases Nat.lt_or_ge (k_rc C) 60 with g | g
      · obtain ⟨e1, q1, q2, f1, f2, e2⟩ := h3.2 g
        obtain ⟨VT', RT', a1, a2, a3⟩ := rel_it0 h hi hkd hs0 g f1 f2
        exact JR.ok h1 a2 h2 (by rw [e1, a3]) (by rw [e2]; exact a1)
      · obtain ⟨e1, e2⟩ := h3.1 g
        obtain ⟨a1, a2, a3⟩ := full hz' n2 hs0 g
        exact JR.ok h1 a1 h2 (by rw [e1, a2]) (by rw [e2, a3]; exact h)
  · have hkn : k.toInt ≠ -1 := fun z => hk1 (m1_of z)
    rcases hD with ⟨hb, h1, h2, h3⟩ | ⟨k9, hk9, rfl, hD⟩
    · refine one ?_ h1 h3
      unfold bdX at hb
      rw [hgc] at hb
      omega
    obtain ⟨z3, x3⟩ := nIx hk9 (by omega)
    have hz' : ¬ ((nI k9).toInt < -1 ∨ ((groupCount M i : Nat) : Int) ≤ (nI k9).toInt) := by rw [z3, ← hgc]; omega
    rcases hD with ⟨hb, h1, h2, h3⟩ | ⟨kd, hkd, rfl, hD⟩
    · exact two hz' (bd_kd hb) h1 h3
    obtain ⟨z2, x2, n2⟩ := kd_ok hkd
    rcases hD with ⟨hb, h1, h2, h3⟩ | ⟨hno, h1, r9, h2, h3⟩
    · exact three hz' n2 hb h1 h3
    · have hs0 : (VT i).st = 0 := Decidable.not_not.mp hno
      rcases Nat.lt_or_ge (k_rc C) 60 with g | g
      · obtain ⟨e1, q1, q2, f1, f2, e2⟩ := h3.2 g
        obtain ⟨VT', RT', a1, a2, a3⟩ := rel_itg h hi hkd hk9 hs0 g f1 f2
        exact JR.ok h1 a2 h2 (by rw [e1, a3]) (by rw [e2]; exact a1)
      · obtain ⟨e1, e2⟩ := h3.1 g
        obtain ⟨a1, a2, a3⟩ := full hz' n2 hs0 g
        exact JR.ok h1 a1 h2 (by rw [e1, a2]) (by rw [e2, a3]; exact h)
end Answers3
