/-! a merge: class and reference -/
theorem cnt_or {P R : Nat → Bool} {n : Nat} (h : ∀ o, o < n → P o = true → R o = false) : cnt (fun o => P o || R o) n = cnt P n + cnt R n := by
  induction n with
  | zero => rfl
  | succ n ih =>
    simp only [cnt]
    rw [ih (fun o ho => h o (by omega))]
    by_cases hp : P n = true
    · have hr := h n (by omega) hp
      simp [hp, hr]; omega
    · by_cases hr : R n = true
      · simp [hp, hr]; omega
      · simp [hp, hr]
theorem sumB_congr {P Q : Nat → Bool} {f g : Nat → Nat} {n : Nat} (h : ∀ i, i < n → P i = Q i ∧ f i = g i) : sumB P f n = sumB Q g n := by
  induction n with
  | zero => rfl
  | succ n ih => simp only [sumB]; rw [ih (fun i hi => h i (by omega)), (h n (by omega)).1, (h n (by omega)).2]
section Merge
variable {n fn sn : Nat} {home : Nat → Int} {alv kin : Nat → Nat} {grp : Nat → Int64} {M : MT}
theorem RelO.bel (h : RelO n fn sn home alv kin grp (m_drp M) (m_seg M) (m_isN M)) (hn : n = m_n M) (x : Int32) {q : Nat} (hq : q < sn) : pBel M x q = beF alv x q := by
  unfold pBel beF
  rw [h.live hn q, ← h.2.2.2.2.2.1 q hq]
theorem RelO.mg (h : RelO n fn sn home alv kin grp (m_drp M) (m_seg M) (m_isN M)) (hn : n = m_n M) (hsn : sn = m_sn M) (x : Int32) : ∀ Q, Q ≤ sn → ∀ o, o < n → mgO M x Q o = if mvP home (m_drp M) alv x o = true ∧ home o < (Q : Int) then (sn : Int) else home o := by
  intro Q
  induction Q with
  | zero =>
    intro _ o ho
    rw [if_neg]
    · exact (h.1 o ho).symm
    · intro z
      have h1 := stF_t (home := home) (drp := m_drp M) (o := o) (by have := z.1; unfold mvP at this; simp only [Bool.and_eq_true] at this; exact this.1)
      have := h.2.2.2.2.1 o ho
      omega
  | succ Q ih =>
    intro hQ o ho
    have ih' := ih (by omega)
    have hlive : liveIn (mgM M (mgO M x Q)) Q = alv Q := by
      rw [h.2.2.2.2.2.1 Q (by omega)]
      show cnt (fun o => decide (mgO M x Q o = (Q : Int)) && !m_isN M o && !m_drp M o) (m_n M) = _
      rw [← hn]
      refine cnt_congr (fun o ho => ?_)
      unfold pLv
      rw [ih' o ho, h.2.1 o]
      by_cases e : fn ≤ o
      · have h1 := h.2.2.2.1 o e ho
        rw [h1]
        have : ¬ (mvP home (m_drp M) alv x o = true ∧ (-1 : Int) < (Q : Int)) := fun z => by
          have := z.1; unfold mvP at this; simp only [Bool.and_eq_true] at this
          exact stF_t this.1 h1
        rw [if_neg this]
        have a1 : ¬ ((-1 : Int) = (Q : Int)) := by omega
        simp [a1]
      · by_cases z : mvP home (m_drp M) alv x o = true ∧ home o < (Q : Int)
        · rw [if_pos z]
          have a1 : ¬ ((sn : Int) = (Q : Int)) := by omega
          have a2 : ¬ (home o = (Q : Int)) := by omega
          simp [a1, a2]
        · rw [if_neg z]; simp [e]
    have hb : pBel (mgM M (mgO M x Q)) x Q = beF alv x Q := by unfold pBel beF; rw [hlive]
    simp only [mgO]
    rw [hb]
    by_cases hp : beF alv x Q = true
    · rw [if_pos hp, mgI_at, ← hn, ih' o ho]
      by_cases z : mvP home (m_drp M) alv x o = true ∧ home o < (Q : Int)
      · rw [if_pos z, if_pos (show mvP home (m_drp M) alv x o = true ∧ home o < ((Q + 1 : Nat) : Int) from ⟨z.1, by omega⟩)]
        rw [if_neg]
        intro w
        have := w.2.1
        omega
      · rw [if_neg z]
        by_cases w : home o = (Q : Int) ∧ m_drp M o = false
        · rw [if_pos ⟨ho, w.1, w.2⟩, if_pos, hsn]
          refine ⟨?_, by omega⟩
          unfold mvP stF
          rw [w.1, w.2]
          have a1 : ¬ ((Q : Int) = -1) := by omega
          have a2 : ((Q : Nat) : Int).toNat = Q := by omega
          rw [a2, hp]
          simp [a1]
        · rw [if_neg (fun q => w ⟨q.2.1, q.2.2⟩), if_neg]
          intro q
          refine w ⟨?_, ?_⟩
          · have : ¬ home o < (Q : Int) := fun r => z ⟨q.1, r⟩
            have := q.2
            omega
          · have := q.1
            unfold mvP stF at this
            simp only [Bool.and_eq_true, Bool.not_eq_true'] at this
            exact this.1.2
    · rw [if_neg hp, ih' o ho]
      by_cases z : mvP home (m_drp M) alv x o = true ∧ home o < (Q : Int)
      · rw [if_pos z, if_pos ⟨z.1, by omega⟩]
      · rw [if_neg z, if_neg]
        intro q
        refine z ⟨q.1, ?_⟩
        have h1 : home o ≠ (Q : Int) := fun e => hp (by
          have := q.1
          unfold mvP at this
          simp only [Bool.and_eq_true] at this
          have h2 := this.2
          rw [e] at h2
          have a2 : ((Q : Nat) : Int).toNat = Q := by omega
          rw [a2] at h2
          exact h2)
        have := q.2
        omega
theorem RelO.moved (h : RelO n fn sn home alv kin grp (m_drp M) (m_seg M) (m_isN M)) (hn : n = m_n M) (x : Int32) : cnt (mvP home (m_drp M) alv x) n = sumB (pBel M x) (liveIn M) sn := by
  have key : ∀ Q, Q ≤ sn → cnt (fun o => mvP home (m_drp M) alv x o && decide (home o < (Q : Int))) n = sumB (beF alv x) alv Q := by
    intro Q
    induction Q with
    | zero =>
      intro _
      refine cnt_zero (fun o ho => ?_)
      cases hp : mvP home (m_drp M) alv x o with
      | false => rfl
      | true =>
        have h1 := stF_t (home := home) (drp := m_drp M) (o := o) (by unfold mvP at hp; simp only [Bool.and_eq_true] at hp; exact hp.1)
        have := h.2.2.2.2.1 o ho
        have : ¬ home o < ((0 : Nat) : Int) := by omega
        rw [Bool.true_and]
        exact decide_eq_false this
    | succ Q ih =>
      intro hQ
      simp only [sumB]
      rw [← ih (by omega)]
      by_cases hp : beF alv x Q = true
      · rw [if_pos hp, h.2.2.2.2.2.1 Q (by omega), ← cnt_or (fun o ho q => ?_)]
        · refine cnt_congr (fun o ho => ?_)
          have hb := h.2.2.2.2.1 o ho
          by_cases e : home o = (Q : Int)
          · rw [decide_eq_false (show ¬ home o < (Q : Int) by omega), decide_eq_true (show home o < ((Q + 1 : Nat) : Int) by omega), Bool.and_true, Bool.and_false, Bool.false_or]
            unfold mvP stF pLv
            rw [decide_eq_true (show home o ≠ -1 by omega), decide_eq_true e, show (home o).toNat = Q by omega, hp, Bool.and_true]
          · rw [show pLv home (m_drp M) Q o = false from by unfold pLv; rw [decide_eq_false e]; rfl, Bool.or_false]
            by_cases f : home o < (Q : Int)
            · rw [decide_eq_true f, decide_eq_true (show home o < ((Q + 1 : Nat) : Int) by omega)]
            · rw [decide_eq_false f, decide_eq_false (show ¬ home o < ((Q + 1 : Nat) : Int) by omega)]
        · simp only [Bool.and_eq_true, decide_eq_true_eq] at q
          unfold pLv
          have : ¬ home o = (Q : Int) := by omega
          simp [this]
      · rw [if_neg hp, Nat.add_zero]
        refine cnt_congr (fun o ho => ?_)
        cases hm : mvP home (m_drp M) alv x o with
        | false => rfl
        | true =>
          have h1 : home o ≠ (Q : Int) := fun e => hp (by
            unfold mvP at hm
            simp only [Bool.and_eq_true] at hm
            have h2 := hm.2
            rw [e] at h2
            have a2 : ((Q : Nat) : Int).toNat = Q := by omega
            rw [a2] at h2
            exact h2)
          simp only [Bool.true_and]
          exact decide_eq_decide.mpr (by omega)
  have h1 := key sn (Nat.le_refl _)
  rw [← sumB_congr (P := pBel M x) (f := liveIn M) (fun q hq => ⟨h.bel hn x hq, by rw [h.live hn q, h.2.2.2.2.2.1 q hq]⟩)] at h1
  rw [← h1]
  refine cnt_congr (fun o ho => ?_)
  have := (h.2.2.2.2.1 o ho).2
  simp [this]
theorem RelO.merge (h : RelO n fn sn home alv kin grp (m_drp M) (m_seg M) (m_isN M)) (hn : n = m_n M) (hsn : sn = m_sn M) (x : Int32) : RelO n fn (sn + 1) ((mvL home (m_drp M) alv x sn n).2) (va_up (ebA alv x sn) sn ((mvL home (m_drp M) alv x sn n).1)) kin grp (m_drp M) (mgO M x sn) (m_isN M) := by
  have hmg := h.mg hn hsn x sn (Nat.le_refl _)
  obtain ⟨h1, h2, h3, h4, h5, h6, h7, h8⟩ := h
  have hm := fun o => (mvL_at (home := home) (drp := m_drp M) (alv := alv) (x := x) (to := sn) n).2 o
  have hmv : ∀ o, mvP home (m_drp M) alv x o = true → home o ≠ -1 ∧ m_drp M o = false ∧ beF alv x (home o).toNat = true := fun o hp => by
    unfold mvP stF at hp
    simp only [Bool.and_eq_true, decide_eq_true_eq, Bool.not_eq_true'] at hp
    exact ⟨hp.1.1, hp.1.2, hp.2⟩
  refine ⟨fun o ho => ?_, h2, h3, fun o h9 ho => ?_, fun o ho => ?_, fun q hq => ?_, h7, h8⟩
  · rw [hm o, hmg o ho]
    have := (h5 o ho).2
    by_cases z : mvP home (m_drp M) alv x o = true
    · rw [if_pos ⟨ho, z⟩, if_pos ⟨z, this⟩]
    · rw [if_neg (fun q => z q.2), if_neg (fun q => z q.1)]
  · rw [hm o, if_neg (fun q => (hmv o q.2).1 (h4 o h9 ho))]; exact h4 o h9 ho
  · rw [hm o]; have := h5 o ho; split <;> omega
  · by_cases e : q = sn
    · subst e
      rw [va_up_self, (mvL_at n).1]
      refine cnt_congr (fun o ho => ?_)
      unfold pLv
      rw [hm o]
      have hb := h5 o ho
      by_cases z : mvP home (m_drp M) alv x o = true
      · rw [if_pos ⟨ho, z⟩, z, (hmv o z).2.1]; simp
      · rw [if_neg (fun w => z w.2)]
        have a1 : ¬ home o = (q : Int) := by omega
        have z' : mvP home (m_drp M) alv x o = false := by simpa using z
        rw [z']; simp [a1]
    · rw [va_up_ne _ _ e, ebA_at]
      by_cases hb : beF alv x q = true
      · rw [if_pos ⟨by omega, hb⟩]
        symm
        refine cnt_zero (fun o ho => ?_)
        unfold pLv
        rw [hm o]
        by_cases z : mvP home (m_drp M) alv x o = true
        · rw [if_pos ⟨ho, z⟩]
          have a1 : ¬ ((sn : Int) = (q : Int)) := by omega
          simp [a1]
        · rw [if_neg (fun w => z w.2)]
          by_cases f : home o = (q : Int)
          · cases hd : m_drp M o with
            | true => simp
            | false =>
              exfalso
              refine z ?_
              unfold mvP stF
              rw [f, hd]
              have a2 : ((q : Nat) : Int).toNat = q := by omega
              have a4 : ¬ ((q : Int) = -1) := by omega
              rw [a2, hb]; simp [a4]
          · simp [f]
      · rw [if_neg (fun w => hb w.2), h6 q (by omega)]
        refine cnt_congr (fun o ho => ?_)
        unfold pLv
        rw [hm o]
        by_cases z : mvP home (m_drp M) alv x o = true
        · rw [if_pos ⟨ho, z⟩]
          have a1 : ¬ ((sn : Int) = (q : Int)) := by omega
          have a2 : ¬ home o = (q : Int) := fun f => hb (by
            have := (hmv o z).2.2
            rw [f] at this
            have a2 : ((q : Nat) : Int).toNat = q := by omega
            rw [a2] at this
            exact this)
          simp [a1, a2]
        · rw [if_neg (fun w => z w.2)]
end Merge
