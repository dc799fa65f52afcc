/-! rows narrowed, groups listed, what follows -/
def ltB (x y : Nat) : Bool := decide (x < y)
theorem ltB_sto : STO ltB := ⟨fun x => by simp [ltB], fun x y z h g => by simp [ltB] at h g ⊢; omega, fun x y h => by simp [ltB]; omega⟩
theorem Enu.congr {ah ah' : Nat → Nat → Bool} {P P' : Nat → Bool} {n c : Nat} {row row' : Nat → Nat} (h : Enu ah P n row c) (hr : ∀ i, i < c → row' i = row i) (hP : ∀ o, o < n → P' o = P o) (ha : ∀ o o', o < n → o' < n → P o = true → P o' = true → ah' o o' = ah o o') : Enu ah' P' n row' c := by
  refine ⟨fun i hi => ?_, fun i j hij hj => ?_, fun o ho hp => ?_⟩
  · rw [hr i hi]; have := h.1 i hi; exact ⟨this.1, (hP _ this.1).trans this.2⟩
  · have h1 := h.1 i (by omega); have h2 := h.1 j hj
    rw [hr i (by omega), hr j hj, ha _ _ h1.1 h2.1 h1.2 h2.2]; exact h.2.1 i j hij hj
  · obtain ⟨i, hi, e⟩ := h.2.2 o ho ((hP o ho).symm.trans hp)
    exact ⟨i, hi, (hr i hi).trans e⟩
theorem Enu.comp {ah : Nat → Nat → Bool} {P Q : Nat → Bool} {n c m : Nat} {row e : Nat → Nat} (h : Enu ah P n row c) (g : Enu ltB (fun i => Q (row i)) c e m) : Enu ah (fun o => P o && Q o) n (fun t => row (e t)) m := by
  refine ⟨fun t ht => ?_, fun t t' htt ht' => ?_, fun o ho hp => ?_⟩
  · have h1 := g.1 t ht; have h2 := h.1 _ h1.1
    exact ⟨h2.1, by simp only [h2.2, Bool.true_and]; exact h1.2⟩
  · have h1 := g.2.1 t t' htt ht'
    exact h.2.1 _ _ (by simpa [ltB] using h1) (g.1 t' ht').1
  · simp only [Bool.and_eq_true] at hp
    obtain ⟨i, hi, ei⟩ := h.2.2 o ho hp.1
    obtain ⟨t, ht, et⟩ := g.2.2 i hi (by simp only [ei]; exact hp.2)
    exact ⟨t, ht, by simp only [et, ei]⟩
theorem Enu.zero {ah : Nat → Nat → Bool} {P : Nat → Bool} {row : Nat → Nat} : Enu ah P 0 row 0 := ⟨fun i h => by omega, fun i j _ h => by omega, fun o h => by omega⟩
theorem Enu.st {T : Nat → Bool} {c m : Nat} {e : Nat → Nat} (h : Enu ltB T c e m) (ht : T c = true) : Enu ltB T (c + 1) (va_up e m c) (m + 1) := by
  have hlo : ∀ t, t < m → va_up e m c t = e t := fun t ht => va_up_ne _ _ (by omega)
  refine ⟨fun t h1 => ?_, fun t t' h1 h2 => ?_, fun o ho hp => ?_⟩
  · by_cases z : t = m
    · subst z; rw [va_up_self]; exact ⟨by omega, ht⟩
    · rw [hlo t (by omega)]; have := h.1 t (by omega); exact ⟨by omega, this.2⟩
  · by_cases z : t' = m
    · subst z; rw [va_up_self, hlo t h1]; have := (h.1 t h1).1; simp [ltB]; omega
    · rw [hlo t (by omega), hlo t' (by omega)]; exact h.2.1 t t' h1 (by omega)
  · by_cases z : o = c
    · subst z; exact ⟨m, by omega, va_up_self _ _ _⟩
    · obtain ⟨t, h1, h2⟩ := h.2.2 o (by omega) hp
      exact ⟨t, by omega, (hlo t h1).trans h2⟩
theorem Enu.sf {ah : Nat → Nat → Bool} {T : Nat → Bool} {c m : Nat} {e : Nat → Nat} (h : Enu ah T c e m) (ht : T c = false) : Enu ah T (c + 1) e m := by
  refine ⟨fun t h1 => ?_, h.2.1, fun o ho hp => ?_⟩
  · have := h.1 t h1; exact ⟨by omega, this.2⟩
  · by_cases z : o = c
    · subst z; rw [ht] at hp; exact absurd hp (by decide)
    · exact h.2.2 o (by omega) hp
/-- a narrowed row -/
theorem nrL_sel {Q : Nat → Bool} {row : Nat → Nat} : ∀ i, ∃ e, Enu ltB (fun j => Q (row j)) i e (nrL Q row i).1 ∧ (∀ t, t < (nrL Q row i).1 → (nrL Q row i).2 t = row (e t)) ∧ ∀ j, i ≤ j → (nrL Q row i).2 j = row j := by
  intro i
  induction i with
  | zero => exact ⟨fun _ => 0, Enu.zero, fun t h => absurd h (Nat.not_lt_zero _), fun j _ => rfl⟩
  | succ i ih =>
    obtain ⟨e, h1, h2, h3⟩ := ih
    have hle := nrL_le Q row i
    have hi := h3 i (Nat.le_refl _)
    simp only [nrL]
    by_cases hq : Q (row i) = true
    · rw [if_pos (by rw [hi]; exact hq)]
      refine ⟨va_up e (nrL Q row i).1 i, h1.st hq, fun t ht => ?_, fun j hj => ?_⟩
      · dsimp only at ht ⊢
        by_cases z : t = (nrL Q row i).1
        · subst z; rw [va_up_self, va_up_self, hi]
        · rw [va_up_ne _ _ z, va_up_ne _ _ z]; exact h2 t (by omega)
      · dsimp only
        rw [va_up_ne _ _ (by omega)]; exact h3 j (by omega)
    · have hq' : Q (row i) = false := by simpa using hq
      rw [if_neg (by rw [hi]; exact hq)]
      exact ⟨e, h1.sf hq', h2, fun j hj => h3 j (by omega)⟩
theorem nrL_enu {ah : Nat → Nat → Bool} {P Q : Nat → Bool} {n c : Nat} {row : Nat → Nat} (h : Enu ah P n row c) : Enu ah (fun o => P o && Q o) n (nrL Q row c).2 (nrL Q row c).1 := by
  obtain ⟨e, h1, h2, _⟩ := nrL_sel (Q := Q) (row := row) c
  exact (h.comp h1).congr (fun i hi => h2 i hi) (fun _ _ => rfl) (fun _ _ _ _ _ _ => rfl)
/-- the objects that stand, listed -/
theorem lsA_enu (P : Nat → Bool) : ∀ n, Enu ltB P n (lsA P n) (cnt P n) := by
  intro n
  induction n with
  | zero => exact Enu.zero
  | succ n ih =>
    simp only [lsA, cnt]
    by_cases hp : P n = true
    · rw [if_pos hp, if_pos hp]; exact ih.st hp
    · rw [if_neg hp, if_neg hp]; exact ih.sf (by simpa using hp)
theorem allF_iff {P : Nat → Bool} {n : Nat} : allF P n = true ↔ ∀ j, j < n → P j = false := by
  induction n with
  | zero => simp [allF]
  | succ n ih =>
    simp only [allF, Bool.and_eq_true, Bool.not_eq_true', ih]
    exact ⟨fun h j hj => by rcases Nat.lt_succ_iff_lt_or_eq.mp hj with g | g
                            · exact h.1 j g
                            · rw [g]; exact h.2, fun h => ⟨fun j hj => h j (by omega), h n (by omega)⟩⟩
theorem meL_at {kin row : Nat → Nat} {met : Nat → Bool} : ∀ n i, i < n → meL kin row met n (kin (row i)) = false := by
  intro n
  induction n with
  | zero => intro i h; omega
  | succ n ih =>
    intro i h
    simp only [meL]
    by_cases z : kin (row i) = kin (row n)
    · rw [z, va_up_self]
    · rw [va_up_ne _ _ z]; exact ih i (by
        have : i ≠ n := fun e => z (by rw [e])
        omega)
/-- the first of its group in a row -/
def ldT (kin row : Nat → Nat) (i : Nat) : Bool := allF (fun j => decide (kin (row j) = kin (row i))) i
theorem lgL_sel {kin row : Nat → Nat} {met : Nat → Bool} {kis : Nat → Nat} {c : Nat} (hm : ∀ i, i < c → met (kin (row i)) = false) : ∀ i, i ≤ c → ∃ e, Enu ltB (ldT kin row) i e (lgL kin row met kis i).1 ∧ (∀ t, t < (lgL kin row met kis i).1 → (lgL kin row met kis i).2.2 t = kin (row (e t))) ∧ ∀ a, a < c → ((lgL kin row met kis i).2.1 (kin (row a)) = true ↔ ∃ j, j < i ∧ kin (row j) = kin (row a)) := by
  intro i
  induction i with
  | zero => intro _; exact ⟨fun _ => 0, Enu.zero, fun t h => absurd h (Nat.not_lt_zero _), fun a ha => ⟨fun h => by rw [show (lgL kin row met kis 0).2.1 = met from rfl, hm a ha] at h; exact absurd h (by decide), fun ⟨j, hj, _⟩ => by omega⟩⟩
  | succ i ih =>
    intro hi
    obtain ⟨e, h1, h2, h3⟩ := ih (by omega)
    simp only [lgL]
    by_cases hq : (lgL kin row met kis i).2.1 (kin (row i)) = true
    · rw [if_pos hq]
      obtain ⟨j, hj, ej⟩ := (h3 i (by omega)).mp hq
      have hT : ldT kin row i = false := by
        cases z : ldT kin row i with
        | false => rfl
        | true => have := allF_iff.mp z j hj; simp [ej] at this
      refine ⟨e, h1.sf hT, h2, fun a ha => (h3 a ha).trans ⟨fun ⟨j', q1, q2⟩ => ⟨j', by omega, q2⟩, fun ⟨j', q1, q2⟩ => ?_⟩⟩
      by_cases z : j' = i
      · subst z; exact ⟨j, hj, ej.trans q2⟩
      · exact ⟨j', by omega, q2⟩
    · rw [if_neg hq]
      have hT : ldT kin row i = true := allF_iff.mpr (fun j hj => by
        simp only [decide_eq_false_iff_not]
        exact fun ej => hq ((h3 i (by omega)).mpr ⟨j, hj, ej⟩))
      refine ⟨va_up e (lgL kin row met kis i).1 i, h1.st hT, fun t ht => ?_, fun a ha => ?_⟩
      · dsimp only at ht ⊢
        by_cases z : t = (lgL kin row met kis i).1
        · subst z; rw [va_up_self, va_up_self]
        · rw [va_up_ne _ _ z, va_up_ne _ _ z]; exact h2 t (by omega)
      · dsimp only
        by_cases z : kin (row a) = kin (row i)
        · rw [z, va_up_self]; exact ⟨fun _ => ⟨i, by omega, rfl⟩, fun _ => rfl⟩
        · rw [va_up_ne _ _ z]
          exact (h3 a ha).trans ⟨fun ⟨j', q1, q2⟩ => ⟨j', by omega, q2⟩, fun ⟨j', q1, q2⟩ => ⟨j', by
            have : j' ≠ i := fun e9 => z (by rw [← q2, e9])
            omega, q2⟩⟩
/-- how many groups a set has, whatever the order -/
def gcF (kin : Nat → Nat) (P : Nat → Bool) (n : Nat) : Nat := cnt (fun k => anyB (fun o => P o && decide (kin o = k)) n) n
theorem anyB_iff {P : Nat → Bool} {n : Nat} : anyB P n = true ↔ ∃ j, j < n ∧ P j = true := by
  induction n with
  | zero => simp [anyB]
  | succ n ih =>
    simp only [anyB, Bool.or_eq_true, ih]
    exact ⟨fun h => h.elim (fun ⟨j, a, b⟩ => ⟨j, by omega, b⟩) (fun h => ⟨n, by omega, h⟩), fun ⟨j, a, b⟩ => by
      by_cases z : j = n
      · subst z; exact Or.inr b
      · exact Or.inl ⟨j, by omega, b⟩⟩
theorem lg_count {ah : Nat → Nat → Bool} {P : Nat → Bool} {n c m : Nat} {row e kin : Nat → Nat} (h : Enu ah P n row c) (g : Enu ltB (ldT kin row) c e m) (hk : ∀ o, o < n → P o = true → kin o < n) : gcF kin P n = m := by
  have hld : ∀ t, t < m → ∀ j, j < e t → kin (row j) ≠ kin (row (e t)) := fun t ht j hj => by
    have := allF_iff.mp (g.1 t ht).2 j hj; simpa using this
  have := cnt_row (P := fun k => anyB (fun o => P o && decide (kin o = k)) n) (Q := fun _ => true) (n := n) m (fun t => kin (row (e t))) (fun t ht => ?_) (fun t t' ht ht' q => ?_) (fun k hk9 hp => ?_)
  · rw [cnt_all] at this
    rw [← this]
    exact cnt_congr (fun k _ => by simp)
  · have h1 := h.1 _ (g.1 t ht).1
    exact ⟨hk _ h1.1 h1.2, anyB_iff.mpr ⟨row (e t), h1.1, by simp [h1.2]⟩⟩
  · rcases Nat.lt_trichotomy t t' with z | z | z
    · exact absurd q (hld t' ht' (e t) (by have := g.2.1 t t' z ht'; simpa [ltB] using this))
    · exact z
    · exact absurd q.symm (hld t ht (e t') (by have := g.2.1 t' t z ht; simpa [ltB] using this))
  · obtain ⟨o, ho, q⟩ := anyB_iff.mp hp
    simp only [Bool.and_eq_true, decide_eq_true_eq] at q
    obtain ⟨i, hi, ei⟩ := h.2.2 o ho q.1
    -- the first of that group in the row
    have hex : ∃ i0, i0 ≤ i ∧ kin (row i0) = k ∧ ∀ j, j < i0 → kin (row j) ≠ k := by
      have hq : decide (kin (row i) = k) = true := by simp [ei, q.2]
      have hlt : fstB (fun j => decide (kin (row j) = k)) (i + 1) < i + 1 := by
        rcases Nat.lt_or_ge (fstB (fun j => decide (kin (row j) = k)) (i + 1)) (i + 1) with z | z
        · exact z
        · have := fstB_min (P := fun j => decide (kin (row j) = k)) (n := i + 1) (o := i) (by omega)
          rw [hq] at this; exact absurd this (by decide)
      refine ⟨_, Nat.lt_succ_iff.mp hlt, by have := fstB_is hlt; simpa using this, fun j hj => ?_⟩
      have := fstB_min hj
      simpa using this
    obtain ⟨i0, a1, a2, a3⟩ := hex
    obtain ⟨t, ht, et⟩ := g.2.2 i0 (by omega) (allF_iff.mpr (fun j hj => by simp only [decide_eq_false_iff_not, a2]; exact a3 j hj))
    exact ⟨t, ht, by simp only [et, a2]⟩
/-- what comes next, by its place -/
def nxK (row : Nat → Nat) (c k : Nat) : Int := if k < c then ((row k : Nat) : Int) else -1
def laK (row : Nat → Nat) (k : Nat) : Int := if k = 0 then -1 else ((row (k - 1) : Nat) : Int)
def candB (M : MT) (v kd : Nat) (sd : Int64) (bh : Int) (gd : Bool) (g : Int64) (mn wh o : Nat) : Bool := pFol M v gd g mn wh o && (decide (bh < 0) || aheadB M kd sd bh.toNat o)
theorem folB_spec (M : MT) (v kd : Nat) (sd : Int64) (bh : Int) (gd : Bool) (g : Int64) (mn wh : Nat) : ∀ n, (folB M v kd sd bh gd g mn wh n = -1 ∧ ∀ o, o < n → candB M v kd sd bh gd g mn wh o = false) ∨ ∃ k, k < n ∧ folB M v kd sd bh gd g mn wh n = (k : Int) ∧ candB M v kd sd bh gd g mn wh k = true ∧ ∀ o, o < n → candB M v kd sd bh gd g mn wh o = true → o ≠ k → aheadB M kd sd k o = true := by
  have hS := aheadB_sto M kd sd
  intro n
  induction n with
  | zero => exact Or.inl ⟨rfl, fun o h => by omega⟩
  | succ n ih =>
    simp only [folB]
    rcases ih with ⟨e, h⟩ | ⟨k, hk, e, hc, hm⟩
    · rw [e]
      by_cases hn : candB M v kd sd bh gd g mn wh n = true
      · refine Or.inr ⟨n, by omega, ?_, hn, fun o ho q z => ?_⟩
        · rw [if_pos]
          unfold candB at hn
          simp only [Bool.and_eq_true] at hn ⊢
          exact ⟨hn, by simp⟩
        · rw [h o (by omega)] at q; exact absurd q (by decide)
      · refine Or.inl ⟨?_, fun o ho => ?_⟩
        · rw [if_neg]
          intro q
          simp only [Bool.and_eq_true] at q
          exact hn (by unfold candB; simp only [Bool.and_eq_true]; exact q.1)
        · by_cases z : o = n
          · subst z; simpa using hn
          · exact h o (by omega)
    · rw [e]
      have hkn : ((k : Nat) : Int).toNat = k := by omega
      by_cases hn : candB M v kd sd bh gd g mn wh n = true ∧ aheadB M kd sd n k = true
      · refine Or.inr ⟨n, by omega, ?_, hn.1, fun o ho q z => ?_⟩
        · rw [if_pos]
          have h1 := hn.1
          unfold candB at h1
          simp only [Bool.and_eq_true] at h1 ⊢
          exact ⟨h1, by rw [hkn, hn.2]; simp⟩
        · by_cases z2 : o = k
          · rw [z2]; exact hn.2
          · exact hS.2.1 _ _ _ hn.2 (hm o (by omega) q z2)
      · refine Or.inr ⟨k, by omega, ?_, hc, fun o ho q z => ?_⟩
        · rw [if_neg]
          intro q
          simp only [Bool.and_eq_true] at q
          refine hn ⟨by unfold candB; simp only [Bool.and_eq_true]; exact q.1, ?_⟩
          have := q.2
          rw [hkn] at this
          simp only [Bool.or_eq_true, decide_eq_true_eq] at this
          rcases this with w | w
          · omega
          · exact w
        · by_cases z2 : o = n
          · subst z2
            rcases hS.2.2 o k z with w | w
            · exact absurd ⟨q, w⟩ hn
            · exact w
          · exact hm o (by omega) q z
/-- what follows the k-th is the next -/
theorem following_at {M : MT} {v kd : Nat} {sd : Int64} {gd : Bool} {g : Int64} {mn wh c : Nat} {row : Nat → Nat} (h : Enu (aheadB M kd sd) (pFol M v gd g mn wh) (m_n M) row c) {k : Nat} (hk : k ≤ c) : following M v kd sd (laK row k) gd g mn wh = nxK row c k := by
  have hS := aheadB_sto M kd sd
  have hcand : ∀ i, i < c → candB M v kd sd (laK row k) gd g mn wh (row i) = decide (k ≤ i) := by
    intro i hi
    unfold candB laK
    rw [(h.1 i hi).2, Bool.true_and]
    by_cases z : k = 0
    · rw [if_pos z]; simp [z]
    · rw [if_neg z]
      have : ((row (k - 1) : Nat) : Int).toNat = row (k - 1) := by omega
      rw [this, h.lt hS (by omega) hi]
      have h0 : decide (((row (k - 1) : Nat) : Int) < 0) = false := by simp
      rw [h0, Bool.false_or]
      exact decide_eq_decide.mpr (by omega)
  unfold following nxK
  rcases folB_spec M v kd sd (laK row k) gd g mn wh (m_n M) with ⟨e, hn⟩ | ⟨o, ho, e, hc, hm⟩
  · rw [e]
    by_cases q : k < c
    · have h1 := hn (row k) (h.1 k q).1
      rw [hcand k q] at h1; simp at h1
    · rw [if_neg q]
  · rw [e]
    have hp : pFol M v gd g mn wh o = true := by unfold candB at hc; simp only [Bool.and_eq_true] at hc; exact hc.1
    obtain ⟨i, hi, ei⟩ := h.2.2 o ho hp
    rw [← ei, hcand i hi] at hc
    have hki : k ≤ i := by simpa using hc
    rw [if_pos (by omega)]
    by_cases z : i = k
    · rw [← ei, z]
    · have h1 := hm (row k) (h.1 k (by omega)).1 (by rw [hcand k (by omega)]; simp) (fun q => z (h.inj hS hi (by omega) (ei.trans q.symm)))
      rw [← ei, h.lt hS hi (by omega)] at h1
      simp at h1; omega
