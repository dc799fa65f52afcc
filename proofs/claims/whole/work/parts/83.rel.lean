/-! the ranking by a view, and the reference's answers of it -/
def ahF (srt key : Nat → Int64) (kd : Nat) (sd : Int64) : Nat → Nat → Bool := cbF (wtF srt key kd sd) key
theorem ahF_sto (srt key : Nat → Int64) (kd : Nat) (sd : Int64) : STO (ahF srt key kd sd) := cbF_sto _ _
theorem aheadB_eq (M : MT) (kd : Nat) (sd : Int64) : aheadB M kd sd = ahF (m_srt M) (m_key M) kd sd := by funext x y; exact aheadB_cb M kd sd x y
def folP (inn : Nat → Bool) (grp key : Nat → Int64) (gd : Bool) (g : Int64) (mn wh o : Nat) : Bool := inn o && (!gd || decide (grp o = g)) && (decide (mn = 0) || decide (sliceV (key o) mn = (nI wh).toInt64))
theorem pFol_eq (M : MT) (v : Nat) (gd : Bool) (g : Int64) (mn wh : Nat) : pFol M v gd g mn wh = folP (m_in M v) (m_grp M) (m_key M) gd g mn wh := rfl
theorem anM_row (C : CT) (kd : Nat) (sd : Int64) : k_row (anM C kd sd) = (srtL (wgL (k_srt C) (k_key C) (k_wt C) (k_row C) kd sd (k_kc C)) (k_key C) (k_kc C) (k_row C) (k_sp C) (k_ra C) (k_rb C) (npass (k_kc C))).1 := by unfold anM; exact mkC_row
theorem ldM_row (C : CT) (f : Nat → Nat) (c : Nat) : k_row (ldM C f c) = va_cpy f (k_row C) 0 0 c := by unfold ldM; exact mkC_row
theorem ldM_kc (C : CT) (f : Nat → Nat) (c : Nat) : k_kc (ldM C f c) = c := by unfold ldM; exact mkC_kc
theorem rkM_row (C : CT) (f : Nat → Nat) (c kd : Nat) (sd : Int64) : k_row (rkM C f c kd sd) = (srtL (wgL (k_srt C) (k_key C) (k_wt C) (va_cpy f (k_row C) 0 0 c) kd sd c) (k_key C) c (va_cpy f (k_row C) 0 0 c) (k_sp C) (k_ra C) (k_rb C) (npass c)).1 := by
  unfold rkM
  rw [anM_row, ldM_srt, ldM_key, ldM_wt, ldM_row, ldM_sp, ldM_ra, ldM_rb, ldM_kc]
/-- the row of a ranking stands in the order, and holds the view's objects -/
theorem rk_enu {C : CT} {P : Nat → Bool} {n c kd : Nat} {f : Nat → Nat} {sd : Int64} (hc : c ≤ 300) (h : Enu ltB P n f c) : Enu (ahF (k_srt C) (k_key C) kd sd) P n (k_row (rkM C f c kd sd)) c := by
  rw [rkM_row]
  have h0 : ∀ i, i < c → va_cpy f (k_row C) 0 0 c i = f i := fun i hi => by rw [pk_cpy_in (Nat.zero_le _) (by omega)]; simp
  have hi : Inj (va_cpy f (k_row C) 0 0 c) c := fun i i' h1 h2 e => by rw [h0 i h1, h0 i' h2] at e; exact h.inj ltB_sto h1 h2 e
  obtain ⟨s1, s2, s3⟩ := sort_ok (wt := wgL (k_srt C) (k_key C) (k_wt C) (va_cpy f (k_row C) 0 0 c) kd sd c) (key := k_key C) (sp := k_sp C) (ra := k_ra C) (rb := k_rb C) hc hi
  generalize (srtL (wgL (k_srt C) (k_key C) (k_wt C) (va_cpy f (k_row C) 0 0 c) kd sd c) (k_key C) c (va_cpy f (k_row C) 0 0 c) (k_sp C) (k_ra C) (k_rb C) (npass c)).1 = row at s1 s2 s3
  have hw : ∀ i, i < c → wgL (k_srt C) (k_key C) (k_wt C) (va_cpy f (k_row C) 0 0 c) kd sd c (row i) = wtF (k_srt C) (k_key C) kd sd (row i) := by
    intro i hi9
    obtain ⟨k, hk, e⟩ := s2 i hi9
    rw [e]; exact wgL_at c k hk
  refine ⟨fun i hi9 => ?_, fun i j hij hj => ?_, fun o ho hp => ?_⟩
  · obtain ⟨k, hk, e⟩ := s2 i hi9
    rw [e, h0 k hk]; exact h.1 k hk
  · have := s1 i j hij hj
    unfold ahF
    rw [cbF_lt] at this ⊢
    rw [hw i (by omega), hw j hj] at this
    exact this
  · obtain ⟨k, hk, e⟩ := h.2.2 o ho hp
    obtain ⟨i, hi9, e'⟩ := s3 k hk
    exact ⟨i, hi9, e'.trans ((h0 k hk).trans e)⟩
/-- a group's small number tells the group -/
def KinOk (grp : Nat → Int64) (kin : Nat → Nat) (n : Nat) : Prop := ∀ o, o < n → kin o = fstB (pGrp grp (grp o)) o
theorem kin_le {grp : Nat → Int64} {kin : Nat → Nat} {n : Nat} (h : KinOk grp kin n) {o : Nat} (ho : o < n) : kin o ≤ o := by rw [h o ho]; exact fstB_le _ _
theorem kin_grp {grp : Nat → Int64} {kin : Nat → Nat} {n : Nat} (h : KinOk grp kin n) {o : Nat} (ho : o < n) : grp (kin o) = grp o := by
  rw [h o ho]
  rcases Nat.lt_or_ge (fstB (pGrp grp (grp o)) o) o with g | g
  · have := fstB_is g; simpa [pGrp] using this
  · have := fstB_le (pGrp grp (grp o)) o
    rw [show fstB (pGrp grp (grp o)) o = o by omega]
theorem kin_iff {grp : Nat → Int64} {kin : Nat → Nat} {n : Nat} (h : KinOk grp kin n) {o o' : Nat} (ho : o < n) (ho' : o' < n) : kin o = kin o' ↔ grp o = grp o' := by
  refine ⟨fun e => by rw [← kin_grp h ho, ← kin_grp h ho', e], fun e => ?_⟩
  have key : ∀ a b, a < n → b < n → a ≤ b → grp a = grp b → kin a = kin b := by
    intro a b ha hb hab eg
    rw [h a ha, h b hb, eg]
    rcases Nat.lt_or_ge a b with g | g
    · -- the first below b with that group is the first below a, or a
      have hpa : pGrp grp (grp b) a = true := by simp [pGrp, eg]
      have h1 : fstB (pGrp grp (grp b)) b ≤ a := by
        rcases Nat.lt_or_ge a (fstB (pGrp grp (grp b)) b) with z | z
        · have := fstB_min z; rw [hpa] at this; exact absurd this (by decide)
        · exact z
      have hb1 : pGrp grp (grp b) (fstB (pGrp grp (grp b)) b) = true := fstB_is (by omega)
      rcases Nat.lt_trichotomy (fstB (pGrp grp (grp b)) a) (fstB (pGrp grp (grp b)) b) with z | z | z
      · have h2 := fstB_min (P := pGrp grp (grp b)) (n := b) z
        have h3 := fstB_le (pGrp grp (grp b)) a
        rcases Nat.lt_or_ge (fstB (pGrp grp (grp b)) a) a with w | w
        · rw [fstB_is w] at h2; exact absurd h2 (by decide)
        · omega
      · exact z
      · have h2 := fstB_min (P := pGrp grp (grp b)) (n := a) z
        rw [hb1] at h2; exact absurd h2 (by decide)
    · rw [show a = b by omega]
  rcases Nat.le_total o o' with g | g
  · exact key o o' ho ho' g e
  · exact (key o' o ho' ho g e.symm).symm
/-- a hit's place, as the reference counts it -/
theorem rankM_at {M : MT} {v kd c : Nat} {sd : Int64} {row : Nat → Nat} (h : Enu (ahF (m_srt M) (m_key M) kd sd) (m_in M v) (m_n M) row c) {i : Nat} (hi : i < c) : rankM M v (row i) kd sd = i := by
  have := h.rank (ahF_sto _ _ _ _) hi
  rw [← aheadB_eq] at this
  exact this
theorem hit_at {M : MT} {v kd c : Nat} {sd : Int64} {row : Nat → Nat} (h : Enu (ahF (m_srt M) (m_key M) kd sd) (m_in M v) (m_n M) row c) {k : Nat} (hk : k < c) : fstB (hitP M v kd sd k) (m_n M) = row k := by
  refine fstB_eq (h.1 k hk).1 ?_ (fun j hj hp => ?_)
  · simp [hitP, (h.1 k hk).2, rankM_at h hk]
  · simp only [hitP, Bool.and_eq_true, decide_eq_true_eq] at hp
    obtain ⟨i, hi, e⟩ := h.2.2 j hj hp.1
    have h2 := hp.2
    rw [← e, rankM_at h hi] at h2
    rw [← e, h2]
theorem find_at {ah : Nat → Nat → Bool} {P : Nat → Bool} {n c : Nat} {row : Nat → Nat} (hS : STO ah) (h : Enu ah P n row c) {o : Nat} (ho : o < n) : (P o = true → ∃ i, i < c ∧ row i = o ∧ findF row c o = (i : Int)) ∧ (P o = false → findF row c o = -1) := by
  refine ⟨fun hp => ?_, fun hp => ?_⟩
  · obtain ⟨i, hi, e⟩ := h.2.2 o ho hp
    have hf : fstB (pRow row o) c = i := fstB_eq hi (by simp [pRow, e]) (fun j hj hq => by
      simp only [pRow, decide_eq_true_eq] at hq
      exact h.inj hS hj hi (hq.trans e.symm))
    exact ⟨i, hi, e, by unfold findF; rw [hf, if_pos hi]⟩
  · unfold findF
    rw [if_neg]
    intro g
    have h1 := fstB_is g
    simp only [pRow, decide_eq_true_eq] at h1
    have h2 := (h.1 _ g).2
    rw [h1, hp] at h2
    exact absurd h2 (by decide)
/-- first of its group, in the row and by the reference -/
theorem first_at {M : MT} {v kd c : Nat} {sd : Int64} {row kin : Nat → Nat} (h : Enu (ahF (m_srt M) (m_key M) kd sd) (m_in M v) (m_n M) row c) (hk : KinOk (m_grp M) kin (m_n M)) {i : Nat} (hi : i < c) : isFirstB M v (row i) kd sd = ldT kin row i := by
  have hS := ahF_sto (m_srt M) (m_key M) kd sd
  have hin := h.1 i hi
  unfold isFirstB ldT
  rw [hin.2, Bool.true_and]
  have hiff : allF (pOwn M v (row i) kd sd) (m_n M) = true ↔ allF (fun j => decide (kin (row j) = kin (row i))) i = true := by
    rw [allF_iff, allF_iff]
    refine ⟨fun q j hj => ?_, fun q p hp => ?_⟩
    · have hj' := h.1 j (by omega)
      have := q (row j) hj'.1
      simp only [pOwn, hj'.2, Bool.true_and, aheadB_eq, h.lt hS (by omega : j < c) hi, hj, decide_true, Bool.and_true, decide_eq_false_iff_not] at this
      simp only [decide_eq_false_iff_not]
      exact fun e => this ((kin_iff hk hj'.1 hin.1).mp e)
    · cases hb : pOwn M v (row i) kd sd p with
      | false => rfl
      | true =>
        simp only [pOwn, Bool.and_eq_true, decide_eq_true_eq, aheadB_eq] at hb
        obtain ⟨j, hj, e⟩ := h.2.2 p hp hb.1.1
        have h1 := hb.2
        rw [← e, h.lt hS hj hi] at h1
        have h2 := q j (by simpa using h1)
        simp only [decide_eq_false_iff_not] at h2
        exact absurd ((kin_iff hk (h.1 j hj).1 hin.1).mpr (by rw [e]; exact hb.1.2)) h2
  cases ha : allF (pOwn M v (row i) kd sd) (m_n M) with
  | true => exact (hiff.mp ha).symm
  | false =>
    cases hb : allF (fun j => decide (kin (row j) = kin (row i))) i with
    | false => rfl
    | true => rw [hiff.mpr hb] at ha; exact absurd ha (by decide)
theorem lead_enu {M : MT} {v kd c m : Nat} {sd : Int64} {row kin e : Nat → Nat} (h : Enu (ahF (m_srt M) (m_key M) kd sd) (m_in M v) (m_n M) row c) (hk : KinOk (m_grp M) kin (m_n M)) (g : Enu ltB (ldT kin row) c e m) : Enu (ahF (m_srt M) (m_key M) kd sd) (fun o => isFirstB M v o kd sd) (m_n M) (fun t => row (e t)) m := by
  have g' : Enu ltB (fun i => isFirstB M v (row i) kd sd) c e m := g.congr (fun _ _ => rfl) (fun i hi => first_at h hk hi) (fun _ _ _ _ _ _ => rfl)
  exact (h.comp (Q := fun o => isFirstB M v o kd sd) g').congr (fun _ _ => rfl) (fun o _ => by simp [isFirstB]) (fun _ _ _ _ _ _ => rfl)
theorem leader_at {M : MT} {v kd c m : Nat} {sd : Int64} {row kin e : Nat → Nat} (h : Enu (ahF (m_srt M) (m_key M) kd sd) (m_in M v) (m_n M) row c) (hk : KinOk (m_grp M) kin (m_n M)) (g : Enu ltB (ldT kin row) c e m) {k : Nat} (hkm : k < m) : leaderM M v kd sd k = ((row (e k) : Nat) : Int) := by
  have hl := lead_enu h hk g
  have hr : ∀ t, t < m → gRank M v kd sd (row (e t)) = t := fun t ht => by
    have := hl.rank (ahF_sto _ _ _ _) ht
    rw [← aheadB_eq] at this
    exact this
  have hf : fstB (leadP M v kd sd k) (m_n M) = row (e k) := by
    refine fstB_eq (hl.1 k hkm).1 ?_ (fun j hj hp => ?_)
    · have := (hl.1 k hkm).2
      simp only [leadP, this, hr k hkm, decide_true, Bool.and_true]
    · simp only [leadP, Bool.and_eq_true, decide_eq_true_eq] at hp
      obtain ⟨t, ht, et⟩ := hl.2.2 j hj hp.1
      have h2 := hp.2
      dsimp only at et
      rw [← et, hr t ht] at h2
      rw [← et, h2]
  unfold leaderM
  rw [hf, if_pos (hl.1 k hkm).1]
theorem group_count {M : MT} {v c : Nat} {f kin : Nat → Nat} (hf : Enu ltB (m_in M v) (m_n M) f c) (hc : c ≤ 300) (hk : KinOk (m_grp M) kin (m_n M)) {C : CT} (h1 : k_srt C = m_srt M) (h2 : k_key C = m_key M) : groupCount M v = gcF kin (m_in M v) (m_n M) := by
  have h := rk_enu (C := C) (kd := 0) (sd := 0) hc hf
  rw [h1, h2] at h
  generalize k_row (rkM C f c 0 0) = row at h
  obtain ⟨e, g, _, _⟩ := lgL_sel (kin := kin) (row := row) (met := fun _ => false) (kis := fun _ => 0) (c := c) (fun _ _ => rfl) c (Nat.le_refl _)
  have hl := (lead_enu h hk g).count (ahF_sto _ _ _ _)
  rw [lg_count h g (fun o ho _ => Nat.lt_of_le_of_lt (kin_le hk ho) ho)]
  exact hl
/-- the groups of a view, listed by the class -/
theorem lg_at {C : CT} {P : Nat → Bool} {n c : Nat} {ah : Nat → Nat → Bool} (hrow : Enu ah P n (k_row C) (k_kc C)) (hc : k_kc C = c) (hk : ∀ o, o < n → P o = true → k_kin C o < n) : ∃ e, Enu ltB (ldT (k_kin C) (k_row C)) c e (lgR C).1 ∧ (∀ t, t < (lgR C).1 → (lgR C).2.2 t = k_kin C (k_row C (e t))) ∧ gcF (k_kin C) P n = (lgR C).1 := by
  subst hc
  obtain ⟨e, h1, h2, _⟩ := lgL_sel (kin := k_kin C) (row := k_row C) (met := meL (k_kin C) (k_row C) (k_met C) (k_kc C)) (kis := k_kis C) (c := k_kc C) (fun i hi => meL_at _ i hi) (k_kc C) (Nat.le_refl _)
  exact ⟨e, h1, h2, lg_count hrow h1 hk⟩
theorem ngM_row (B : CT) (k9 : Nat) : k_row (ngM B k9) = (nrL (pKin (k_kin B) ((lgR B).2.2 k9 : Int)) (k_row B) (k_kc B)).2 ∧ k_kc (ngM B k9) = (nrL (pKin (k_kin B) ((lgR B).2.2 k9 : Int)) (k_row B) (k_kc B)).1 := by unfold ngM; exact ⟨mkC_row, mkC_kc⟩
/-- the row of a group -/
theorem ng_enu {B : CT} {P : Nat → Bool} {n : Nat} {ah : Nat → Nat → Bool} {grp : Nat → Int64} (hrow : Enu ah P n (k_row B) (k_kc B)) (hk : KinOk grp (k_kin B) n) {l k9 : Nat} (hl : l < n) (hkis : (lgR B).2.2 k9 = k_kin B l) : Enu ah (fun o => P o && decide (grp o = grp l)) n (k_row (ngM B k9)) (k_kc (ngM B k9)) := by
  obtain ⟨e1, e2⟩ := ngM_row B k9
  rw [e1, e2, hkis]
  refine (nrL_enu (Q := pKin (k_kin B) ((k_kin B l : Nat) : Int)) hrow).congr (fun _ _ => rfl) (fun o ho => ?_) (fun _ _ _ _ _ _ => rfl)
  have : pKin (k_kin B) ((k_kin B l : Nat) : Int) o = decide (grp o = grp l) := by
    unfold pKin
    refine decide_eq_decide.mpr ?_
    rw [← kin_iff hk ho hl]
    omega
  rw [this]
