/-! objects and segments: class and reference -/
theorem fstB_congr {P Q : Nat → Bool} {n : Nat} (h : ∀ i, i < n → P i = Q i) : fstB P n = fstB Q n := by
  induction n with
  | zero => rfl
  | succ n ih => simp only [fstB]; rw [ih (fun i hi => h i (by omega)), h n (by omega)]
def pLv (home : Nat → Int) (drp : Nat → Bool) (q o : Nat) : Bool := decide (home o = (q : Int)) && !drp o
def RelO (n fn sn : Nat) (home : Nat → Int) (alv kin : Nat → Nat) (grp : Nat → Int64) (drp : Nat → Bool) (seg : Nat → Int) (isN : Nat → Bool) : Prop :=
  (∀ o, o < n → home o = seg o) ∧ (∀ o, isN o = (decide (fn ≤ o) && decide (o < n))) ∧ fn ≤ n ∧ (∀ o, fn ≤ o → o < n → home o = -1) ∧ (∀ o, o < n → -1 ≤ home o ∧ home o < (sn : Int)) ∧ (∀ q, q < sn → alv q = cnt (pLv home drp q) n) ∧ KinOk grp kin n ∧ ∀ o, n ≤ o → drp o = false
theorem RelO.live {n fn sn : Nat} {home : Nat → Int} {alv kin : Nat → Nat} {grp : Nat → Int64} {M : MT} (h : RelO n fn sn home alv kin grp (m_drp M) (m_seg M) (m_isN M)) (hn : n = m_n M) (q : Nat) : liveIn M q = cnt (pLv home (m_drp M) q) n := by
  unfold liveIn
  rw [← hn]
  refine cnt_congr (fun o ho => ?_)
  unfold pLive pLv
  rw [← h.1 o ho, h.2.1 o]
  by_cases e : fn ≤ o
  · have := h.2.2.2.1 o e ho
    rw [this]
    have : ¬ ((-1 : Int) = (q : Int)) := by omega
    simp [this]
  · simp [e]
theorem RelO.add {n fn sn : Nat} {home : Nat → Int} {alv kin : Nat → Nat} {grp : Nat → Int64} {drp : Nat → Bool} {seg : Nat → Int} {isN : Nat → Bool} (h : RelO n fn sn home alv kin grp drp seg isN) (g : Int64) :
    RelO (n + 1) fn sn (va_up home n (-1)) alv (va_up kin n (firstF (va_up grp n g) n g)) (va_up grp n g) drp (va_up seg n (-1)) (va_up isN n true) := by
  obtain ⟨h1, h2, h3, h4, h5, h6, h7, h8⟩ := h
  refine ⟨fun o ho => ?_, fun o => ?_, by omega, fun o h9 ho => ?_, fun o ho => ?_, fun q hq => ?_, fun o ho => ?_, fun o ho => h8 o (by omega)⟩
  · by_cases e : o = n
    · subst e; rw [va_up_self, va_up_self]
    · rw [va_up_ne _ _ e, va_up_ne _ _ e]; exact h1 o (by omega)
  · by_cases e : o = n
    · subst e; rw [va_up_self]; simp; exact h3
    · rw [va_up_ne _ _ e, h2 o]
      by_cases f : o < n
      · simp [f, show o < n + 1 by omega]
      · simp [f, show ¬ o < n + 1 by omega]
  · by_cases e : o = n
    · subst e; rw [va_up_self]
    · rw [va_up_ne _ _ e]; exact h4 o h9 (by omega)
  · by_cases e : o = n
    · subst e; rw [va_up_self]; omega
    · rw [va_up_ne _ _ e]; exact h5 o (by omega)
  · rw [h6 q hq]
    simp only [cnt]
    have : pLv (va_up home n (-1)) drp q n = false := by
      unfold pLv; rw [va_up_self]
      have : ¬ ((-1 : Int) = (q : Int)) := by omega
      simp [this]
    rw [this]
    simp only [Bool.false_eq_true, if_false, Nat.add_zero]
    exact cnt_congr (fun o ho => by unfold pLv; rw [va_up_ne _ _ (show o ≠ n by omega)])
  · by_cases e : o = n
    · subst e; rw [va_up_self, va_up_self]; rfl
    · rw [va_up_ne _ _ e, va_up_ne _ _ e, h7 o (by omega)]
      exact fstB_congr (fun i hi => by unfold pGrp; rw [va_up_ne _ _ (show i ≠ n by omega)])
theorem RelO.drop {n fn sn : Nat} {home : Nat → Int} {alv alv' kin : Nat → Nat} {grp : Nat → Int64} {drp : Nat → Bool} {seg : Nat → Int} {isN : Nat → Bool} (h : RelO n fn sn home alv kin grp drp seg isN) {x : Nat} (hx : x < n) (ha : alv' = if drp x then alv else if home x = -1 then alv else va_up alv (home x).toNat (alv (home x).toNat - 1)) :
    RelO n fn sn home alv' kin grp (va_up drp x true) seg isN := by
  obtain ⟨h1, h2, h3, h4, h5, h6, h7, h8⟩ := h
  refine ⟨h1, h2, h3, h4, h5, fun q hq => ?_, h7, fun o ho => by rw [va_up_ne _ _ (show o ≠ x by omega)]; exact h8 o ho⟩
  have hoth : ∀ k, k < n → k ≠ x → pLv home drp q k = pLv home (va_up drp x true) q k := fun k _ e => by unfold pLv; rw [va_up_ne _ _ e]
  have hxf : pLv home (va_up drp x true) q x = false := by unfold pLv; rw [va_up_self]; simp
  have hsame : pLv home drp q x = false → alv q = cnt (pLv home (va_up drp x true) q) n := fun hf => by
    rw [h6 q hq]
    exact cnt_congr (fun k hk => by
      by_cases e : k = x
      · rw [e, hf, hxf]
      · exact hoth k hk e)
  rw [ha]
  by_cases hd : drp x = true
  · rw [if_pos hd]
    exact hsame (by unfold pLv; rw [hd]; simp)
  · rw [if_neg hd]
    by_cases hh : home x = -1
    · rw [if_pos hh]
      refine hsame (by
        unfold pLv; rw [hh]
        have : ¬ ((-1 : Int) = (q : Int)) := by omega
        simp [this])
    · rw [if_neg hh]
      have hb := h5 x hx
      by_cases e : q = (home x).toNat
      · rw [e, va_up_self, ← e]
        have hxt : pLv home drp q x = true := by
          unfold pLv
          have : home x = (q : Int) := by omega
          simp [this, hd]
        have := cnt_dec hx hxt hxf hoth
        rw [h6 q hq]; omega
      · rw [va_up_ne _ _ e]
        refine hsame (by
          unfold pLv
          have : ¬ home x = (q : Int) := by omega
          simp [this])
theorem newOnes_eq {n fn sn : Nat} {home : Nat → Int} {alv kin : Nat → Nat} {grp : Nat → Int64} {M : MT} (h : RelO n fn sn home alv kin grp (m_drp M) (m_seg M) (m_isN M)) (hn : n = m_n M) : newOnes M = newF fn (m_drp M) n := by
  unfold newOnes newF
  rw [← hn]
  refine cnt_congr (fun o ho => ?_)
  unfold pNew pNw
  rw [h.2.1 o]
  simp [ho]
theorem snH_at {fn : Nat} {drp : Nat → Bool} {home : Nat → Int} {q : Nat} : ∀ i o, snH fn drp home q i o = if o < i ∧ pNw fn drp o = true then (q : Int) else home o := by
  intro i
  induction i with
  | zero => intro o; simp [snH]
  | succ i ih =>
    intro o
    simp only [snH]
    by_cases hp : pNw fn drp i = true
    · rw [if_pos hp]
      by_cases e : o = i
      · subst e; rw [va_up_self]; simp [hp]
      · rw [va_up_ne _ _ e, ih]
        by_cases f : o < i
        · simp [f, show o < i + 1 by omega]
        · simp [f, show ¬ o < i + 1 by omega]
    · rw [if_neg hp, ih]
      by_cases e : o = i
      · subst e; simp [hp]
      · by_cases f : o < i
        · simp [f, show o < i + 1 by omega]
        · simp [f, show ¬ o < i + 1 by omega]
theorem cmS_at (M : MT) : ∀ i o, cmS M i o = if o < i ∧ m_isN M o = true then (if m_drp M o then -1 else (m_sn M : Int)) else m_seg M o := by
  intro i
  induction i with
  | zero => intro o; simp [cmS]
  | succ i ih =>
    intro o
    simp only [cmS]
    by_cases hp : m_isN M i = true
    · rw [if_pos hp]
      by_cases e : o = i
      · subst e; rw [va_up_self]; simp [hp]
      · rw [va_up_ne _ _ e, ih]
        by_cases f : o < i
        · simp [f, show o < i + 1 by omega]
        · simp [f, show ¬ o < i + 1 by omega]
    · rw [if_neg hp, ih]
      by_cases e : o = i
      · subst e; simp [hp]
      · by_cases f : o < i
        · simp [f, show o < i + 1 by omega]
        · simp [f, show ¬ o < i + 1 by omega]
theorem cmN_eq (M : MT) : ∀ i o, cmN M i o = if o < i then false else m_isN M o := by
  intro i
  induction i with
  | zero => intro o; simp [cmN]
  | succ i ih =>
    intro o
    simp only [cmN]
    by_cases hp : m_isN M i = true
    · rw [if_pos hp]
      by_cases e : o = i
      · subst e; rw [va_up_self]; simp
      · rw [va_up_ne _ _ e, ih]
        by_cases f : o < i
        · simp [f, show o < i + 1 by omega]
        · simp [f, show ¬ o < i + 1 by omega]
    · rw [if_neg hp, ih]
      by_cases e : o = i
      · subst e; simp at hp; simp [hp]
      · by_cases f : o < i
        · simp [f, show o < i + 1 by omega]
        · simp [f, show ¬ o < i + 1 by omega]
theorem RelO.commit0 {n fn sn : Nat} {home : Nat → Int} {alv kin : Nat → Nat} {grp : Nat → Int64} {M : MT} (h : RelO n fn sn home alv kin grp (m_drp M) (m_seg M) (m_isN M)) (hn : n = m_n M) (hz : newF fn (m_drp M) n = 0) : RelO n n sn home alv kin grp (m_drp M) (cmS M (m_n M)) (cmN M (m_n M)) := by
  obtain ⟨h1, h2, h3, h4, h5, h6, h7, h8⟩ := h
  have hdr : ∀ o, o < n → fn ≤ o → m_drp M o = true := fun o ho hf => by
    have := cnt_none hz o ho
    unfold pNw at this
    simp [hf] at this; exact this
  rw [← hn]
  refine ⟨fun o ho => ?_, fun o => ?_, Nat.le_refl _, fun o h9 ho => by omega, h5, h6, h7, h8⟩
  · rw [cmS_at]
    by_cases e : m_isN M o = true
    · have hf : fn ≤ o := by rw [h2 o] at e; simp at e; exact e.1
      rw [if_pos ⟨ho, e⟩, hdr o ho hf, if_pos rfl]
      exact h4 o hf ho
    · rw [if_neg (fun q => e q.2)]; exact h1 o ho
  · rw [cmN_eq]
    by_cases e : o < n
    · rw [if_pos e]; simp <;> omega
    · rw [if_neg e, h2 o]; simp [e]
theorem RelO.commit1 {n fn sn : Nat} {home : Nat → Int} {alv kin : Nat → Nat} {grp : Nat → Int64} {M : MT} (h : RelO n fn sn home alv kin grp (m_drp M) (m_seg M) (m_isN M)) (hn : n = m_n M) (hsn : sn = m_sn M) : RelO n n (sn + 1) (snH fn (m_drp M) home sn n) (va_up alv sn (newF fn (m_drp M) n)) kin grp (m_drp M) (cmS M (m_n M)) (cmN M (m_n M)) := by
  obtain ⟨h1, h2, h3, h4, h5, h6, h7, h8⟩ := h
  rw [← hn]
  refine ⟨fun o ho => ?_, fun o => ?_, Nat.le_refl _, fun o h9 ho => by omega, fun o ho => ?_, fun q hq => ?_, h7, h8⟩
  · rw [cmS_at, snH_at]
    by_cases e : m_isN M o = true
    · have hf : fn ≤ o := by rw [h2 o] at e; simp at e; exact e.1
      rw [if_pos (show o < n ∧ m_isN M o = true from ⟨ho, e⟩)]
      by_cases hd : m_drp M o = true
      · rw [if_pos hd, if_neg (show ¬ (o < n ∧ pNw fn (m_drp M) o = true) from fun q => by have := q.2; unfold pNw at this; simp [hd] at this)]
        exact h4 o hf ho
      · rw [if_neg hd, if_pos (show o < n ∧ pNw fn (m_drp M) o = true from ⟨ho, by unfold pNw; simp [hf, hd]⟩), hsn]
    · rw [if_neg (show ¬ (o < n ∧ m_isN M o = true) from fun q => e q.2), if_neg (show ¬ (o < n ∧ pNw fn (m_drp M) o = true) from fun q => e (by rw [h2 o]; have := q.2; unfold pNw at this; simp at this; simp [this.1, ho]))]
      exact h1 o ho
  · rw [cmN_eq]
    by_cases e : o < n
    · rw [if_pos e]; simp <;> omega
    · rw [if_neg e, h2 o]; simp [e]
  · rw [snH_at]
    have := h5 o ho
    split <;> omega
  · by_cases e : q = sn
    · subst e; rw [va_up_self]
      unfold newF
      refine cnt_congr (fun o ho => ?_)
      unfold pLv
      rw [snH_at]
      by_cases hp : pNw fn (m_drp M) o = true
      · rw [if_pos ⟨ho, hp⟩, hp]
        unfold pNw at hp; simp at hp; simp [hp.2]
      · rw [if_neg (fun z => hp z.2)]
        have := h5 o ho
        have hne : ¬ home o = (q : Int) := by omega
        have hp' : pNw fn (m_drp M) o = false := by simpa using hp
        rw [hp']; simp [hne]
    · rw [va_up_ne _ _ e, h6 q (by omega)]
      refine cnt_congr (fun o ho => ?_)
      unfold pLv
      rw [snH_at]
      by_cases hp : pNw fn (m_drp M) o = true
      · rw [if_pos ⟨ho, hp⟩]
        have hf : fn ≤ o := by unfold pNw at hp; simp at hp; exact hp.1
        rw [h4 o hf ho]
        have a1 : ¬ ((-1 : Int) = (q : Int)) := by omega
        have a2 : ¬ ((sn : Int) = (q : Int)) := by omega
        simp [a1, a2]
      · rw [if_neg (fun z => hp z.2)]
/-- who moves in a merge -/
def mvP (home : Nat → Int) (drp : Nat → Bool) (alv : Nat → Nat) (x : Int32) (o : Nat) : Bool := stF home drp o && beF alv x (home o).toNat
theorem mvL_at {home : Nat → Int} {drp : Nat → Bool} {alv : Nat → Nat} {x : Int32} {to : Nat} : ∀ i, (mvL home drp alv x to i).1 = cnt (mvP home drp alv x) i ∧ ∀ o, (mvL home drp alv x to i).2 o = if o < i ∧ mvP home drp alv x o = true then (to : Int) else home o := by
  intro i
  induction i with
  | zero => exact ⟨rfl, fun o => by simp [mvL]⟩
  | succ i ih =>
    obtain ⟨k1, k2⟩ := ih
    have hi : (mvL home drp alv x to i).2 i = home i := by rw [k2]; simp
    have hP : (stF (mvL home drp alv x to i).2 drp i && beF alv x ((mvL home drp alv x to i).2 i).toNat) = mvP home drp alv x i := by unfold mvP stF; rw [hi]
    simp only [mvL]
    rw [hP]
    by_cases hp : mvP home drp alv x i = true
    · rw [if_pos hp]
      refine ⟨by simp only [cnt, hp, k1]; simp, fun o => ?_⟩
      dsimp only
      by_cases e : o = i
      · subst e; rw [va_up_self]; simp [hp]
      · rw [va_up_ne _ _ e, k2]
        by_cases f : o < i
        · simp [f, show o < i + 1 by omega]
        · simp [f, show ¬ o < i + 1 by omega]
    · rw [if_neg hp]
      refine ⟨by simp only [cnt, k1]; simp [hp], fun o => ?_⟩
      rw [k2]
      by_cases e : o = i
      · subst e; simp [hp]
      · by_cases f : o < i
        · simp [f, show o < i + 1 by omega]
        · simp [f, show ¬ o < i + 1 by omega]
theorem ebA_at {alv : Nat → Nat} {x : Int32} : ∀ i q, ebA alv x i q = if q < i ∧ beF alv x q = true then 0 else alv q := by
  intro i
  induction i with
  | zero => intro q; simp [ebA]
  | succ i ih =>
    intro q
    have hb : beF (ebA alv x i) x i = beF alv x i := by unfold beF; rw [ih]; simp
    simp only [ebA]
    rw [hb]
    by_cases hp : beF alv x i = true
    · rw [if_pos hp]
      by_cases e : q = i
      · subst e; rw [va_up_self]; simp [hp]
      · rw [va_up_ne _ _ e, ih]
        by_cases f : q < i
        · simp [f, show q < i + 1 by omega]
        · simp [f, show ¬ q < i + 1 by omega]
    · rw [if_neg hp, ih]
      by_cases e : q = i
      · subst e; simp [hp]
      · by_cases f : q < i
        · simp [f, show q < i + 1 by omega]
        · simp [f, show ¬ q < i + 1 by omega]
theorem mgI_at {d : Nat → Bool} {q : Nat} {to : Int} {f : Nat → Int} : ∀ n o, mgI d q to f n o = if o < n ∧ f o = (q : Int) ∧ d o = false then to else f o := by
  intro n
  induction n with
  | zero => intro o; simp [mgI]
  | succ n ih =>
    intro o
    have hn : mgI d q to f n n = f n := by rw [ih]; simp
    simp only [mgI]
    rw [hn]
    by_cases hp : f n = (q : Int) ∧ d n = false
    · rw [if_pos (by simp [hp.1, hp.2])]
      by_cases e : o = n
      · subst e; rw [va_up_self]; simp [hp]
      · rw [va_up_ne _ _ e, ih]
        by_cases g : o < n
        · simp [g, show o < n + 1 by omega]
        · simp [g, show ¬ o < n + 1 by omega]
    · rw [if_neg (by simp only [Bool.and_eq_true, decide_eq_true_eq, Bool.not_eq_true']; exact hp), ih]
      by_cases e : o = n
      · subst e; simp [hp]
      · by_cases g : o < n
        · simp [g, show o < n + 1 by omega]
        · simp [g, show ¬ o < n + 1 by omega]
