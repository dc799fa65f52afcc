/-! what a wrapper answers is what the reference answers -/
section Answers
variable {cI cJ cZ cV cR : ClassId} {C : CT} {VT : Nat → VRec} {RT : Nat → RRec} {M : MT}
theorem bd_eq {x : Int32} {a b : Nat} (e : a = b) (h : bdX x a) : x.toInt < 0 ∨ ((b : Nat) : Int) ≤ x.toInt := by rw [← e]; exact h
theorem bd_kd {y : Int32} (h : bdX y 3) : y.toInt < 0 ∨ 3 ≤ y.toInt := h
/-- the three things to be shown of a call -/
def JR (cI cZ : ClassId) (rr : Int32) (u : (Nat → Int64) × CT) (T : Nat) (v : Int64) (M' : MT) : Prop := rr = nI T ∧ (T = 0 → u.1 0 = v) ∧ ∃ VT' RT', Rel cI cZ u.2 VT' RT' M'
theorem JR.thr {cI cZ : ClassId} {rr : Int32} {u : (Nat → Int64) × CT} {T k : Nat} {v : Int64} {M' : MT} {VT' : Nat → VRec} {RT' : Nat → RRec} (h1 : rr = nI k) (h2 : T = k) (hk : k ≠ 0) (h3 : Rel cI cZ u.2 VT' RT' M') : JR cI cZ rr u T v M' := ⟨by rw [h1, h2], fun z => absurd (h2.symm.trans z) hk, VT', RT', h3⟩
theorem JR.ok {cI cZ : ClassId} {rr : Int32} {u : (Nat → Int64) × CT} {ov : Nat → Int64} {T : Nat} {v w : Int64} {M' : MT} {VT' : Nat → VRec} {RT' : Nat → RRec} (h1 : rr = nI 0) (h2 : T = 0) (h3 : u.1 = va_up ov 0 w) (h4 : w = v) (h5 : Rel cI cZ u.2 VT' RT' M') : JR cI cZ rr u T v M' := ⟨by rw [h1, h2], fun _ => by rw [h3, va_up_self, h4], VT', RT', h5⟩
theorem J_drop (h : Rel cI cZ C VT RT M) {x : Int32} {ov : Nat → Int64} {rr : Int32} {u : (Nat → Int64) × CT} (hD : D_drop cI cJ cZ cV cR C VT RT x ov rr u) : JR cI cZ rr u (dropT M x) (if dropR M x then 1 else 0) (dropM M x) := by
  have en := h.2.2.2.2.1.1
  have esn := h.2.2.2.2.1.2.1
  have evn := h.2.2.2.2.1.2.2.1
  have ern := h.2.2.2.2.1.2.2.2.1
  have epn := h.2.2.2.2.1.2.2.2.2.1
  have enw := h.2.2.2.2.1.2.2.2.2.2.1
  unfold D_drop at hD
  rcases hD with ⟨hb, h1, h2, h3⟩ | ⟨i, hi, rfl, h1, r9, h2, h3, h4⟩
  · have hb' := bd_eq en hb
    refine JR.thr h1 (by unfold dropT; rw [if_pos hb']) (by decide) (VT' := VT) (RT' := RT) ?_
    rw [h3]; unfold dropM; rw [if_pos hb']; exact h
  · obtain ⟨a1, a2, a3⟩ := rel_drop h hi
    refine JR.ok h1 a2 h2 ?_ (by rw [h4]; exact a1)
    rw [h3, a3]
    cases k_drp C i <;> rfl
theorem J_object (h : Rel cI cZ C VT RT M) {x : Int32} {y : Int32} {ov : Nat → Int64} {rr : Int32} {u : (Nat → Int64) × CT} (hD : D_object cI cJ cZ cV cR C VT RT x y ov rr u) : JR cI cZ rr u (objT M x y) (objR M x y) (M) := by
  have en := h.2.2.2.2.1.1
  have esn := h.2.2.2.2.1.2.1
  have evn := h.2.2.2.2.1.2.2.1
  have ern := h.2.2.2.2.1.2.2.2.1
  have epn := h.2.2.2.2.1.2.2.2.2.1
  have enw := h.2.2.2.2.1.2.2.2.2.2.1
  unfold D_object at hD
  rcases hD with ⟨hb, h1, h2, h3⟩ | ⟨i, hi, rfl, ⟨hb, h1, h2, h3⟩ | ⟨w, hw, rfl, h1, r9, h2, h3, h4⟩⟩
  · refine JR.thr h1 (by unfold objT; rw [if_pos (Or.inl (bd_eq en hb))]) (by decide) (by rw [h3]; exact h)
  · refine JR.thr h1 (by unfold objT; rw [if_pos (Or.inr (by rcases hb with q | q; exact Or.inl q; exact Or.inr (by omega)))]) (by decide) (by rw [h3]; exact h)
  · obtain ⟨a1, a2⟩ := rel_object h hi hw
    exact JR.ok h1 a1 h2 (by rw [h3, a2]) (by rw [h4]; exact h)
theorem J_segment (h : Rel cI cZ C VT RT M) {x : Int32} {y : Int32} {ov : Nat → Int64} {rr : Int32} {u : (Nat → Int64) × CT} (hD : D_segment cI cJ cZ cV cR C VT RT x y ov rr u) : JR cI cZ rr u (segT M x y) ((segR M x y).toInt64) (M) := by
  have en := h.2.2.2.2.1.1
  have esn := h.2.2.2.2.1.2.1
  have evn := h.2.2.2.2.1.2.2.1
  have ern := h.2.2.2.2.1.2.2.2.1
  have epn := h.2.2.2.2.1.2.2.2.2.1
  have enw := h.2.2.2.2.1.2.2.2.2.2.1
  unfold D_segment at hD
  rcases hD with ⟨hb, h1, h2, h3⟩ | ⟨i, hi, rfl, ⟨hb, h1, h2, h3⟩ | ⟨w, hw, rfl, h1, r9, h2, h3, h4⟩⟩
  · refine JR.thr h1 (by unfold segT; rw [if_pos (Or.inl (bd_eq esn hb))]) (by decide) (by rw [h3]; exact h)
  · refine JR.thr h1 (by unfold segT; rw [if_pos (Or.inr (by rcases hb with q | q; exact Or.inl q; exact Or.inr (by omega)))]) (by decide) (by rw [h3]; exact h)
  · obtain ⟨a1, a2⟩ := rel_segment h hi hw
    exact JR.ok h1 a1 h2 (by rw [h3, a2]) (by rw [h4]; exact h)
theorem J_letGo (h : Rel cI cZ C VT RT M) {x : Int32} {ov : Nat → Int64} {rr : Int32} {u : (Nat → Int64) × CT} (hD : D_letGo cI cJ cZ cV cR C VT RT x ov rr u) : JR cI cZ rr u (letGoT M x) ((letGoR M x).toInt64) (letGoM M x) := by
  have en := h.2.2.2.2.1.1
  have esn := h.2.2.2.2.1.2.1
  have evn := h.2.2.2.2.1.2.2.1
  have ern := h.2.2.2.2.1.2.2.2.1
  have epn := h.2.2.2.2.1.2.2.2.2.1
  have enw := h.2.2.2.2.1.2.2.2.2.2.1
  unfold D_letGo at hD
  rcases hD with ⟨hb, h1, h2, h3⟩ | ⟨i, hi, rfl, ⟨hb, h1, h2, h3⟩ | ⟨hno, h1, r9, h2, h3, h4⟩⟩
  · have hb' := bd_eq evn hb
    refine JR.thr h1 (by unfold letGoT; rw [if_pos hb']) (by decide) (VT' := VT) (RT' := RT) ?_
    rw [h3]; unfold letGoM; rw [if_pos hb']; exact h
  · obtain ⟨z1, x1, n1⟩ := vT_ok h hi
    have hst : ¬ m_st M i = 0 := by rw [(h.vw hi).2.2.2.2.1]; exact hb
    refine JR.thr h1 (by unfold letGoT; rw [if_neg n1, x1, if_neg hst]) (by decide) (VT' := VT) (RT' := RT) ?_
    rw [h3]; unfold letGoM; rw [if_neg n1, x1, if_neg hst]; exact h
  · obtain ⟨a1, a2, a3⟩ := rel_letGo h hi (Decidable.not_not.mp hno)
    exact JR.ok h1 a2 h2 (by rw [h3, a3]) (by rw [h4]; exact a1)
theorem J_state (h : Rel cI cZ C VT RT M) {x : Int32} {ov : Nat → Int64} {rr : Int32} {u : (Nat → Int64) × CT} (hD : D_state cI cJ cZ cV cR C VT RT x ov rr u) : JR cI cZ rr u (vT M x) ((stateR M x).toInt64) (M) := by
  have en := h.2.2.2.2.1.1
  have esn := h.2.2.2.2.1.2.1
  have evn := h.2.2.2.2.1.2.2.1
  have ern := h.2.2.2.2.1.2.2.2.1
  have epn := h.2.2.2.2.1.2.2.2.2.1
  have enw := h.2.2.2.2.1.2.2.2.2.2.1
  unfold D_state at hD
  rcases hD with ⟨hb, h1, h2, h3⟩ | ⟨i, hi, rfl, h1, r9, h2, h3, h4⟩
  · refine JR.thr h1 (by unfold vT; rw [if_pos (bd_eq evn hb)]) (by decide) (by rw [h3]; exact h)
  · obtain ⟨z1, x1, n1⟩ := vT_ok h hi
    exact JR.ok h1 (by unfold vT; rw [if_neg n1]) h2 (by rw [h3]; unfold stateR; rw [if_neg n1, x1, (h.vw hi).2.2.2.2.1]) (by rw [h4]; exact h)
theorem J_size (h : Rel cI cZ C VT RT M) {x : Int32} {ov : Nat → Int64} {rr : Int32} {u : (Nat → Int64) × CT} (hD : D_size cI cJ cZ cV cR C VT RT x ov rr u) : JR cI cZ rr u (vT M x) ((sizeR M x).toInt64) (M) := by
  have en := h.2.2.2.2.1.1
  have esn := h.2.2.2.2.1.2.1
  have evn := h.2.2.2.2.1.2.2.1
  have ern := h.2.2.2.2.1.2.2.2.1
  have epn := h.2.2.2.2.1.2.2.2.2.1
  have enw := h.2.2.2.2.1.2.2.2.2.2.1
  unfold D_size at hD
  rcases hD with ⟨hb, h1, h2, h3⟩ | ⟨i, hi, rfl, h1, r9, h2, h3, h4⟩
  · refine JR.thr h1 (by unfold vT; rw [if_pos (bd_eq evn hb)]) (by decide) (by rw [h3]; exact h)
  · obtain ⟨z1, x1, n1⟩ := vT_ok h hi
    exact JR.ok h1 (by unfold vT; rw [if_neg n1]) h2 (by rw [h3]; unfold sizeR; rw [if_neg n1, x1, (h.vw hi).2.2.2.2.2.2]) (by rw [h4]; exact h)
theorem J_groups (h : Rel cI cZ C VT RT M) {x : Int32} {ov : Nat → Int64} {rr : Int32} {u : (Nat → Int64) × CT} (hD : D_groups cI cJ cZ cV cR C VT RT x ov rr u) : JR cI cZ rr u (vT M x) ((groupsR M x).toInt64) (M) := by
  have en := h.2.2.2.2.1.1
  have esn := h.2.2.2.2.1.2.1
  have evn := h.2.2.2.2.1.2.2.1
  have ern := h.2.2.2.2.1.2.2.2.1
  have epn := h.2.2.2.2.1.2.2.2.2.1
  have enw := h.2.2.2.2.1.2.2.2.2.2.1
  unfold D_groups at hD
  rcases hD with ⟨hb, h1, h2, h3⟩ | ⟨i, hi, rfl, h1, r9, h2, h3, h4⟩
  · refine JR.thr h1 (by unfold vT; rw [if_pos (bd_eq evn hb)]) (by decide) (by rw [h3]; exact h)
  · obtain ⟨z1, x1, n1⟩ := vT_ok h hi
    exact JR.ok h1 (by unfold vT; rw [if_neg n1]) h2 (by rw [h3]; unfold groupsR; rw [if_neg n1, x1, (h.vw hi).2.2.2.2.2.1.symm]) (by rw [h4]; exact h)
theorem J_page (h : Rel cI cZ C VT RT M) {x : Int32} {ov : Nat → Int64} {rr : Int32} {u : (Nat → Int64) × CT} (hD : D_page cI cJ cZ cV cR C VT RT x ov rr u) : JR cI cZ rr u (pageT M x) ((pageR M x).toInt64) (M) := by
  have en := h.2.2.2.2.1.1
  have esn := h.2.2.2.2.1.2.1
  have evn := h.2.2.2.2.1.2.2.1
  have ern := h.2.2.2.2.1.2.2.2.1
  have epn := h.2.2.2.2.1.2.2.2.2.1
  have enw := h.2.2.2.2.1.2.2.2.2.2.1
  unfold D_page at hD
  rcases hD with ⟨hb, h1, h2, h3⟩ | ⟨i, hi, rfl, h1, r9, h2, h3, h4⟩
  · refine JR.thr h1 (by unfold pageT; rw [if_pos (bd_eq epn hb)]) (by decide) (by rw [h3]; exact h)
  · obtain ⟨z1, x1⟩ := nIx hi (by have := h.1.2.2.2.2.2.1; omega)
    have n1 : ¬ ((nI i).toInt < 0 ∨ ((m_pn M : Nat) : Int) ≤ (nI i).toInt) := by rw [z1]; omega
    exact JR.ok h1 (by unfold pageT; rw [if_neg n1]) h2 (by rw [h3]; unfold pageR; rw [if_neg n1, x1, h.2.2.2.2.2.2.2.2 i hi]) (by rw [h4]; exact h)
theorem J_told (h : Rel cI cZ C VT RT M) {x : Int32} {ov : Nat → Int64} {rr : Int32} {u : (Nat → Int64) × CT} (hD : D_told cI cJ cZ cV cR C VT RT x ov rr u) : JR cI cZ rr u (toldT x) ((toldR M x).toInt64) (M) := by
  have en := h.2.2.2.2.1.1
  have esn := h.2.2.2.2.1.2.1
  have evn := h.2.2.2.2.1.2.2.1
  have ern := h.2.2.2.2.1.2.2.2.1
  have epn := h.2.2.2.2.1.2.2.2.2.1
  have enw := h.2.2.2.2.1.2.2.2.2.2.1
  unfold D_told at hD
  rcases hD with ⟨hb, h1, h2, h3⟩ | ⟨i, hi, rfl, h1, r9, h2, h3, h4⟩
  · refine JR.thr h1 (by unfold toldT; rw [if_pos (by rcases hb with q | q; exact Or.inl q; exact Or.inr (by omega))]) (by decide) (by rw [h3]; exact h)
  · obtain ⟨a1, a2⟩ := rel_told h hi
    exact JR.ok h1 a1 h2 (by rw [h3, a2]) (by rw [h4]; exact h)
theorem J_left (h : Rel cI cZ C VT RT M) {x : Int32} {ov : Nat → Int64} {rr : Int32} {u : (Nat → Int64) × CT} (hD : D_left cI cJ cZ cV cR C VT RT x ov rr u) : JR cI cZ rr u (lfT M x) ((lfR M x ((RT (ix x)).n - (RT (ix x)).gv)).toInt64) (M) := by
  have en := h.2.2.2.2.1.1
  have esn := h.2.2.2.2.1.2.1
  have evn := h.2.2.2.2.1.2.2.1
  have ern := h.2.2.2.2.1.2.2.2.1
  have epn := h.2.2.2.2.1.2.2.2.2.1
  have enw := h.2.2.2.2.1.2.2.2.2.2.1
  unfold D_left at hD
  rcases hD with ⟨hb, h1, h2, h3⟩ | ⟨j, hj, rfl, h1, r9, h2, h3, h4⟩
  · refine JR.thr h1 (by unfold lfT; rw [if_pos (bd_eq ern hb)]) (by decide) (by rw [h3]; exact h)
  · obtain ⟨z1, x1, n1⟩ := rT_ok h hj
    obtain ⟨a1, a2, a3⟩ := rel_left h hj
    exact JR.ok h1 a1 h2 (by rw [h3, x1, a2]) (by rw [h4]; exact h)
theorem J_close (h : Rel cI cZ C VT RT M) {x : Int32} {ov : Nat → Int64} {rr : Int32} {u : (Nat → Int64) × CT} (hD : D_close cI cJ cZ cV cR C VT RT x ov rr u) : JR cI cZ rr u (lfT M x) ((clR M x).toInt64) (clM M x) := by
  have en := h.2.2.2.2.1.1
  have esn := h.2.2.2.2.1.2.1
  have evn := h.2.2.2.2.1.2.2.1
  have ern := h.2.2.2.2.1.2.2.2.1
  have epn := h.2.2.2.2.1.2.2.2.2.1
  have enw := h.2.2.2.2.1.2.2.2.2.2.1
  unfold D_close at hD
  rcases hD with ⟨hb, h1, h2, h3⟩ | ⟨j, hj, rfl, h1, r9, h2, h3, h4⟩
  · have hb' := bd_eq ern hb
    refine JR.thr h1 (by unfold lfT; rw [if_pos hb']) (by decide) (VT' := VT) (RT' := RT) ?_
    rw [h3]; unfold clM; rw [if_pos hb']; exact h
  · obtain ⟨z1, x1, n1⟩ := rT_ok h hj
    obtain ⟨VT', RT', a1, a2⟩ := rel_close h hj
    exact JR.ok h1 (by unfold lfT; rw [if_neg n1]) h2 (by rw [h3, a2]) (by rw [h4]; exact a1)
theorem J_tick (h : Rel cI cZ C VT RT M) {x : Int32} {ov : Nat → Int64} {rr : Int32} {u : (Nat → Int64) × CT} (hD : D_tick cI cJ cZ cV cR C VT RT x ov rr u) : JR cI cZ rr u (tickT M x) ((tickR M x).toInt64) (tickM M x) := by
  have en := h.2.2.2.2.1.1
  have esn := h.2.2.2.2.1.2.1
  have evn := h.2.2.2.2.1.2.2.1
  have ern := h.2.2.2.2.1.2.2.2.1
  have epn := h.2.2.2.2.1.2.2.2.2.1
  have enw := h.2.2.2.2.1.2.2.2.2.2.1
  unfold D_tick at hD
  rcases hD with ⟨hb, h1, h2, h3⟩ | ⟨n, hn, hnw, rfl, h1, r9, h2, k, VT9, RT9, h3, h4⟩
  · have hb' : x.toInt < 0 ∨ 10000 < x.toInt ∨ 1000000000 < ((m_nw M : Nat) : Int) + x.toInt := by omega
    refine JR.thr h1 (by unfold tickT; rw [if_pos hb']) (by decide) (VT' := VT) (RT' := RT) ?_
    rw [h3]; unfold tickM; rw [if_pos hb']; exact h
  · obtain ⟨a1, a2, a3⟩ := rel_tick h hn hnw h4
    exact JR.ok h1 a3 h2 (by rw [h3, a2]) a1
end Answers
