section Answers2
variable {cI cJ cZ cV cR : ClassId} {C : CT} {VT : Nat → VRec} {RT : Nat → RRec} {M : MT}
theorem ag_v (h : Rel cI cZ C VT RT M) {x y z : Int32} (hb : bdX x (k_vc C)) : againstM M x y z = 1 := by
  have := vT_bad h hb
  unfold againstM; rw [if_pos (Or.inl (by omega))]
theorem ag_g (h : Rel cI cZ C VT RT M) {i : Nat} {y z : Int32} (hi : i < k_vc C) (hb : bdX z (VT i).g) : againstM M (nI i) y z = 1 := by
  obtain ⟨z1, x1, n1⟩ := vT_ok h hi
  have hg := (h.vw hi).2.2.2.2.2.1
  unfold bdX at hb
  unfold againstM
  rw [show (nI i).toInt.toNat = i from x1, ← hg, if_pos (Or.inr (by omega))]
theorem ag_k (h : Rel cI cZ C VT RT M) {i k9 : Nat} {y : Int32} (hi : i < k_vc C) (hk9 : k9 < (VT i).g) (hb : bdX y 3) : againstM M (nI i) y (nI k9) = 2 := by
  obtain ⟨z1, x1, n1⟩ := vT_ok h hi
  have hg := (h.vw hi).2.2.2.2.2.1
  have hg3 : (VT i).g ≤ 300 := (h.2.2.1.1 i hi).2.2.2.2.2.2.1
  obtain ⟨z3, x3⟩ := nIx hk9 (by omega)
  have hb' := bd_kd hb
  unfold againstM
  rw [show (nI i).toInt.toNat = i from x1, ← hg, if_neg (by rw [z3]; omega), if_pos (by omega)]
theorem ok_rk (h : Rel cI cZ C VT RT M) {i : Nat} (hi : i < k_vc C) (kd : Nat) (sd : Int64) : kOk (rkM C (VT i).f (VT i).c kd sd) := ok_rkM h.1 (h.vw hi).2.1 (h.2.2.1.1 i hi).2.2.2.2.2.2.2.2.2.1
theorem J_hit (h : Rel cI cZ C VT RT M) {x : Int32} {y : Int32} {sd : Int64} {k : Int32} {ov : Nat → Int64} {rr : Int32} {u : (Nat → Int64) × CT} (hD : D_hit cI cJ cZ cV cR C VT RT x y sd k ov rr u) : JR cI cZ rr u (hitT M x y k) ((hitR M x y sd k).toInt64) (M) := by
  have en := h.2.2.2.2.1.1
  have esn := h.2.2.2.2.1.2.1
  have evn := h.2.2.2.2.1.2.2.1
  have ern := h.2.2.2.2.1.2.2.2.1
  have epn := h.2.2.2.2.1.2.2.2.2.1
  have enw := h.2.2.2.2.1.2.2.2.2.2.1
  unfold D_hit at hD
  rcases hD with ⟨hb, h1, h2, h3⟩ | ⟨i, hi, rfl, ⟨hb, h1, h2, h3⟩ | ⟨k9, hk9, rfl, ⟨hb, h1, h2, h3⟩ | ⟨kd, hkd, rfl, h1, r9, h2, h3, h4⟩⟩⟩
  · exact JR.thr h1 (by unfold hitT; rw [if_pos (Or.inl (bd_eq evn hb))]) (by decide) (by rw [h3]; exact h)
  · obtain ⟨z1, x1, n1⟩ := vT_ok h hi
    exact JR.thr h1 (by unfold hitT; rw [x1, (h.vw hi).2.2.2.2.2.2, if_pos (Or.inr (bd_eq rfl hb))]) (by decide) (by rw [h3]; exact h)
  · obtain ⟨z1, x1, n1⟩ := vT_ok h hi
    have hw := h.vw hi
    obtain ⟨z3, x3⟩ := nIx hk9 (by omega)
    have hc : ¬ (((nI i).toInt < 0 ∨ ((m_vn M : Nat) : Int) ≤ (nI i).toInt) ∨ (nI k9).toInt < 0 ∨ (((VT i).c : Nat) : Int) ≤ (nI k9).toInt) := fun q => q.elim n1 (by rw [z3]; omega)
    exact JR.thr h1 (by unfold hitT; rw [x1, hw.2.2.2.2.2.2, if_neg hc, if_pos (bd_kd hb)]) (by decide) (by rw [h3]; exact h)
  · obtain ⟨a1, a2, _⟩ := rel_hit (sd := sd) h hi hk9 hkd
    exact JR.ok h1 a1 h2 (by rw [h3, a2]) (by rw [h4]; exact h.rk (ok_rk h hi kd sd))
theorem J_place (h : Rel cI cZ C VT RT M) {x : Int32} {y : Int32} {sd : Int64} {k : Int32} {ov : Nat → Int64} {rr : Int32} {u : (Nat → Int64) × CT} (hD : D_place cI cJ cZ cV cR C VT RT x y sd k ov rr u) : JR cI cZ rr u (placeT M x y k) ((placeR M x y sd k).toInt64) (M) := by
  have en := h.2.2.2.2.1.1
  have esn := h.2.2.2.2.1.2.1
  have evn := h.2.2.2.2.1.2.2.1
  have ern := h.2.2.2.2.1.2.2.2.1
  have epn := h.2.2.2.2.1.2.2.2.2.1
  have enw := h.2.2.2.2.1.2.2.2.2.2.1
  unfold D_place at hD
  rcases hD with ⟨hb, h1, h2, h3⟩ | ⟨i, hi, rfl, ⟨hb, h1, h2, h3⟩ | ⟨o9, ho9, rfl, ⟨hb, h1, h2, h3⟩ | ⟨kd, hkd, rfl, h1, r9, h2, h3, h4⟩⟩⟩
  · exact JR.thr h1 (by unfold placeT; rw [if_pos (Or.inl (bd_eq evn hb))]) (by decide) (by rw [h3]; exact h)
  · exact JR.thr h1 (by unfold placeT; rw [if_pos (Or.inr (bd_eq en hb))]) (by decide) (by rw [h3]; exact h)
  · obtain ⟨z1, x1, n1⟩ := vT_ok h hi
    obtain ⟨z3, x3⟩ := nIx ho9 (by have := h.1.1; omega)
    have hc : ¬ (((nI i).toInt < 0 ∨ ((m_vn M : Nat) : Int) ≤ (nI i).toInt) ∨ ((nI o9).toInt < 0 ∨ ((m_n M : Nat) : Int) ≤ (nI o9).toInt)) := fun q => q.elim n1 (by rw [z3]; omega)
    exact JR.thr h1 (by unfold placeT; rw [if_neg hc, if_pos (bd_kd hb)]) (by decide) (by rw [h3]; exact h)
  · obtain ⟨a1, a2⟩ := rel_place (sd := sd) h hi ho9 hkd
    exact JR.ok h1 a1 h2 (by rw [h3, a2]) (by rw [h4]; exact h.rk (ok_rk h hi kd sd))
theorem J_group (h : Rel cI cZ C VT RT M) {x : Int32} {y : Int32} {sd : Int64} {k : Int32} {ov : Nat → Int64} {rr : Int32} {u : (Nat → Int64) × CT} (hD : D_group cI cJ cZ cV cR C VT RT x y sd k ov rr u) : JR cI cZ rr u (againstM M x y k) (groupR M x y sd k) (M) := by
  have en := h.2.2.2.2.1.1
  have esn := h.2.2.2.2.1.2.1
  have evn := h.2.2.2.2.1.2.2.1
  have ern := h.2.2.2.2.1.2.2.2.1
  have epn := h.2.2.2.2.1.2.2.2.2.1
  have enw := h.2.2.2.2.1.2.2.2.2.2.1
  unfold D_group at hD
  rcases hD with ⟨hb, h1, h2, h3⟩ | ⟨i, hi, rfl, ⟨hb, h1, h2, h3⟩ | ⟨k9, hk9, rfl, ⟨hb, h1, h2, h3⟩ | ⟨kd, hkd, rfl, h1, r9, h2, h3, h4⟩⟩⟩
  · exact JR.thr h1 (ag_v h hb) (by decide) (by rw [h3]; exact h)
  · exact JR.thr h1 (ag_g h hi hb) (by decide) (by rw [h3]; exact h)
  · exact JR.thr h1 (ag_k h hi hk9 hb) (by decide) (by rw [h3]; exact h)
  · obtain ⟨a1, a2, a3, a4⟩ := rel_group (sd := sd) h hi hk9 hkd
    have hA := ok_rk h hi kd sd
    exact JR.ok h1 a1 h2 (by rw [h3, a3]) (by rw [h4]; exact (h.rk hA).ng (ok_ngM hA))
theorem J_counted (h : Rel cI cZ C VT RT M) {x : Int32} {y : Int32} {sd : Int64} {k : Int32} {ov : Nat → Int64} {rr : Int32} {u : (Nat → Int64) × CT} (hD : D_counted cI cJ cZ cV cR C VT RT x y sd k ov rr u) : JR cI cZ rr u (againstM M x y k) ((countedR M x y sd k).toInt64) (M) := by
  have en := h.2.2.2.2.1.1
  have esn := h.2.2.2.2.1.2.1
  have evn := h.2.2.2.2.1.2.2.1
  have ern := h.2.2.2.2.1.2.2.2.1
  have epn := h.2.2.2.2.1.2.2.2.2.1
  have enw := h.2.2.2.2.1.2.2.2.2.2.1
  unfold D_counted at hD
  rcases hD with ⟨hb, h1, h2, h3⟩ | ⟨i, hi, rfl, ⟨hb, h1, h2, h3⟩ | ⟨k9, hk9, rfl, ⟨hb, h1, h2, h3⟩ | ⟨kd, hkd, rfl, h1, r9, h2, h3, h4⟩⟩⟩
  · exact JR.thr h1 (ag_v h hb) (by decide) (by rw [h3]; exact h)
  · exact JR.thr h1 (ag_g h hi hb) (by decide) (by rw [h3]; exact h)
  · exact JR.thr h1 (ag_k h hi hk9 hb) (by decide) (by rw [h3]; exact h)
  · obtain ⟨a1, a2, a3, a4⟩ := rel_group (sd := sd) h hi hk9 hkd
    have hA := ok_rk h hi kd sd
    exact JR.ok h1 a1 h2 (by rw [h3, a4]) (by rw [h4]; exact (h.rk hA).ng (ok_ngM hA))
theorem J_best (h : Rel cI cZ C VT RT M) {x : Int32} {y : Int32} {sd : Int64} {k : Int32} {j : Int32} {ov : Nat → Int64} {rr : Int32} {u : (Nat → Int64) × CT} (hD : D_best cI cJ cZ cV cR C VT RT x y sd k j ov rr u) : JR cI cZ rr u (bestT M x y sd k j) ((bestR M x y sd k j).toInt64) (M) := by
  have en := h.2.2.2.2.1.1
  have esn := h.2.2.2.2.1.2.1
  have evn := h.2.2.2.2.1.2.2.1
  have ern := h.2.2.2.2.1.2.2.2.1
  have epn := h.2.2.2.2.1.2.2.2.2.1
  have enw := h.2.2.2.2.1.2.2.2.2.2.1
  unfold D_best at hD
  rcases hD with ⟨hb, h1, h2, h3⟩ | ⟨i, hi, rfl, ⟨hb, h1, h2, h3⟩ | ⟨k9, hk9, rfl, ⟨hb, h1, h2, h3⟩ | ⟨kd, hkd, rfl, ⟨hb, h1, h2, h3⟩ | ⟨j9, hj9, rfl, h1, r9, h2, h3, h4⟩⟩⟩⟩
  · exact JR.thr h1 (by unfold bestT; rw [ag_v h hb, if_pos (by decide)]) (by decide) (by rw [h3]; exact h)
  · exact JR.thr h1 (by unfold bestT; rw [ag_g h hi hb, if_pos (by decide)]) (by decide) (by rw [h3]; exact h)
  · exact JR.thr h1 (by unfold bestT; rw [ag_k h hi hk9 hb, if_pos (by decide)]) (by decide) (by rw [h3]; exact h)
  · obtain ⟨a, _⟩ := ag_ok h hi hk9 hkd
    obtain ⟨b1, b2⟩ := rel_best (sd := sd) h hi hk9 hkd
    have hA := ok_rk h hi kd sd
    refine JR.thr h1 ?_ (by decide) (by rw [h3]; exact (h.rk hA).ng (ok_ngM hA))
    unfold bestT
    rw [a, if_neg (by decide), b1, if_pos (bd_eq rfl hb)]
  · obtain ⟨a, _⟩ := ag_ok h hi hk9 hkd
    obtain ⟨b1, b2⟩ := rel_best (sd := sd) h hi hk9 hkd
    have hA := ok_rk h hi kd sd
    have hK : kOk (ngM (rkM C (VT i).f (VT i).c kd sd) k9) := ok_ngM hA
    obtain ⟨z5, x5⟩ := nIx hj9 (by have := hK.2.2.2.2.2.2.2.1; omega)
    have hnb : ¬ ((nI j9).toInt < 0 ∨ ((k_kc (ngM (rkM C (VT i).f (VT i).c kd sd) k9) : Nat) : Int) ≤ (nI j9).toInt) := by rw [z5]; omega
    refine JR.ok h1 ?_ h2 ?_ (by rw [h4]; exact (h.rk hA).ng hK)
    · unfold bestT; rw [a, if_neg (by decide), b1, if_neg hnb]
    · rw [h3]
      unfold bestR
      rw [a, if_neg (by decide), b1, if_neg hnb, x5, b2 j9 hj9, zI_n]
theorem J_take (h : Rel cI cZ C VT RT M) {x : Int32} {y : Int32} {ov : Nat → Int64} {rr : Int32} {u : (Nat → Int64) × CT} (hD : D_take cI cJ cZ cV cR C VT RT x y ov rr u) : JR cI cZ rr u (takeT M x y) ((takeR M x y).toInt64) (takeM M x y) := by
  have en := h.2.2.2.2.1.1
  have esn := h.2.2.2.2.1.2.1
  have evn := h.2.2.2.2.1.2.2.1
  have ern := h.2.2.2.2.1.2.2.2.1
  have epn := h.2.2.2.2.1.2.2.2.2.1
  have enw := h.2.2.2.2.1.2.2.2.2.2.1
  unfold D_take at hD
  rcases hD with ⟨hb, h1, h2, h3⟩ | ⟨j, hj, rfl, ⟨hb, h1, h2, h3⟩ | ⟨m, hm1, hm2, rfl, ⟨hb, h1, h2, h3⟩ | ⟨hno, h1, r9, h2, h3⟩⟩⟩
  · have hb' := bd_eq ern hb
    refine JR.thr h1 (by unfold takeT; rw [if_pos hb']) (by decide) (VT' := VT) (RT' := RT) ?_
    rw [h3]; unfold takeM; rw [if_pos hb']; exact h
  · obtain ⟨z1, x1, n1⟩ := rT_ok h hj
    have hb' : y.toInt < 1 ∨ 50 < y.toInt := hb
    refine JR.thr h1 (by unfold takeT; rw [if_neg n1, if_pos hb']) (by decide) (VT' := VT) (RT' := RT) ?_
    rw [h3]; unfold takeM; rw [if_neg n1, if_pos hb']; exact h
  · obtain ⟨z1, x1, n1⟩ := rT_ok h hj
    obtain ⟨z2, x2⟩ := nIx (show m < 51 by omega) (by omega)
    have nw2 : ¬ ((nI m).toInt < 1 ∨ 50 < (nI m).toInt) := by rw [z2]; omega
    have hc : m_isC M j = false := by rw [(h.2.2.2.2.2.2.2.1.1 j hj).2.1]; exact hb
    refine JR.thr h1 (by unfold takeT; rw [if_neg n1, if_neg nw2, x1, if_pos hc]) (by decide) (VT' := VT) (RT' := RT) ?_
    rw [h3]; unfold takeM; rw [if_neg n1, if_neg nw2, x1, if_pos hc]; exact h
  · obtain ⟨z1, x1, n1⟩ := rT_ok h hj
    obtain ⟨z2, x2⟩ := nIx (show m < 51 by omega) (by omega)
    have nw2 : ¬ ((nI m).toInt < 1 ∨ 50 < (nI m).toInt) := by rw [z2]; omega
    have hcu : (RT j).cu = true := by simpa using hno
    have hc : ¬ m_isC M j = false := by rw [(h.2.2.2.2.2.2.2.1.1 j hj).2.1, hcu]; decide
    have ho := (h.2.2.2.2.2.2.2.1.1 j hj).2.2.1
    have eT : takeT M (nI j) (nI m) = 0 := by unfold takeT; rw [if_neg n1, if_neg nw2, x1, if_neg hc]
    cases he : (RT j).ed with
    | true =>
      obtain ⟨e1, e2⟩ := h3.1 he
      refine JR.ok h1 eT h2 ?_ (VT' := VT) (RT' := RT) ?_
      · rw [e1]; unfold takeR; rw [if_neg n1, if_neg nw2, x1, if_neg hc, ho, he, if_pos rfl]
      · rw [e2]; unfold takeM; rw [if_neg n1, if_neg nw2, x1, if_neg hc, ho, he, if_pos rfl]; exact h
    | false =>
      obtain ⟨e1, e2⟩ := h3.2 he
      obtain ⟨a1, a2⟩ := rel_take h hj hm1 hm2 hcu he rfl
      exact JR.ok h1 eT h2 (by rw [e1, a2]) (by rw [e2]; exact a1)
theorem J_next (h : Rel cI cZ C VT RT M) {x : Int32} {ov : Nat → Int64} {rr : Int32} {u : (Nat → Int64) × CT} (hD : D_next cI cJ cZ cV cR C VT RT x ov rr u) : JR cI cZ rr u (nxT M x) ((nxR M x).toInt64) (nxM M x) := by
  have en := h.2.2.2.2.1.1
  have esn := h.2.2.2.2.1.2.1
  have evn := h.2.2.2.2.1.2.2.1
  have ern := h.2.2.2.2.1.2.2.2.1
  have epn := h.2.2.2.2.1.2.2.2.2.1
  have enw := h.2.2.2.2.1.2.2.2.2.2.1
  unfold D_next at hD
  rcases hD with ⟨hb, h1, h2, h3⟩ | ⟨j, hj, rfl, ⟨hb, h1, h2, h3⟩ | ⟨hno, ⟨hb, h1, h2, h3⟩ | ⟨hno2, h1, r9, h2, h3, h4⟩⟩⟩
  · have hb' := bd_eq ern hb
    refine JR.thr h1 (by unfold nxT; rw [if_pos hb']) (by decide) (VT' := VT) (RT' := RT) ?_
    rw [h3]; unfold nxM; rw [if_pos hb']; exact h
  · obtain ⟨z1, x1, n1⟩ := rT_ok h hj
    have hc : m_isC M j = true := by rw [(h.2.2.2.2.2.2.2.1.1 j hj).2.1]; exact hb
    refine JR.thr h1 (by unfold nxT; rw [if_neg n1, x1, if_pos hc]) (by decide) (VT' := VT) (RT' := RT) ?_
    rw [h3]; unfold nxM; rw [if_neg n1, x1, if_pos hc]; exact h
  · obtain ⟨z1, x1, n1⟩ := rT_ok h hj
    obtain ⟨_, a2, a3, _, _, a6⟩ := h.2.2.2.2.2.2.2.1.1 j hj
    have hcu : (RT j).cu = false := by simpa using hno
    have hc : ¬ m_isC M j = true := by rw [a2, hcu]; decide
    have hed : m_ov M j = true := by
      rw [a3]
      cases he : (RT j).ed with
      | true => rfl
      | false =>
        have := a6 hcu he
        rcases hb with q | q
        · rw [he] at q; exact absurd q (by decide)
        · omega
    refine JR.thr h1 (by unfold nxT; rw [if_neg n1, x1, if_neg hc, if_pos hed]) (by decide) (VT' := VT) (RT' := RT) ?_
    rw [h3]; unfold nxM; rw [if_neg n1, x1, if_neg hc, if_pos hed]; exact h
  · have hcu : (RT j).cu = false := by simpa using hno
    have hed : (RT j).ed = false := by simpa using fun h9 => hno2 (Or.inl h9)
    have hne : (RT j).gv < (RT j).n := by have := fun h9 => hno2 (Or.inr h9); omega
    obtain ⟨VT', RT', a1, a2, a3⟩ := rel_next h hj hcu hed hne
    exact JR.ok h1 a2 h2 (by rw [h3, a3]) (by rw [h4]; exact a1)
end Answers2
