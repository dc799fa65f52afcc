/-! the order of the hits: strict, whole; and rows that stand in it -/
def STO (ah : Nat → Nat → Bool) : Prop := (∀ x, ah x x = false) ∧ (∀ x y z, ah x y = true → ah y z = true → ah x z = true) ∧ ∀ x y, x ≠ y → ah x y = true ∨ ah y x = true
theorem STO.asym {ah : Nat → Nat → Bool} (h : STO ah) {x y : Nat} (g : ah x y = true) : ah y x = false := by
  cases e : ah y x with
  | false => rfl
  | true => have := h.2.1 x y x g e; rw [h.1 x] at this; exact absurd this (by decide)
theorem i64_ne {a b : Int64} (h : a ≠ b) : a < b ∨ b < a := by
  rw [Int64.lt_iff_toInt_lt, Int64.lt_iff_toInt_lt]
  have : a.toInt ≠ b.toInt := fun e => h (Int64.toInt_inj.mp e)
  omega
theorem i64_tr {a b c : Int64} (h : a < b) (g : b < c) : a < c := by
  rw [Int64.lt_iff_toInt_lt] at h g ⊢; omega
theorem i64_ir {a : Int64} : ¬ a < a := by rw [Int64.lt_iff_toInt_lt]; omega
theorem i64_as {a b : Int64} (h : a < b) : a ≠ b := fun e => i64_ir (e ▸ h)
theorem cbF_lt {wt key : Nat → Int64} {x y : Nat} : cbF wt key x y = true ↔ (wt x < wt y ∨ (wt x = wt y ∧ (key x < key y ∨ (key x = key y ∧ x < y)))) := by
  unfold cbF
  by_cases e : wt x = wt y
  · rw [if_neg (fun h => h e)]
    by_cases f : key x = key y
    · rw [if_neg (fun h => h f)]
      simp only [decide_eq_true_eq]
      exact ⟨fun h => Or.inr ⟨e, Or.inr ⟨f, h⟩⟩, fun h => h.elim (fun g => absurd e (i64_as g)) (fun g => g.2.elim (fun k => absurd f (i64_as k)) (fun k => k.2))⟩
    · rw [if_pos f]
      simp only [decide_eq_true_eq]
      exact ⟨fun h => Or.inr ⟨e, Or.inl h⟩, fun h => h.elim (fun g => absurd e (i64_as g)) (fun g => g.2.elim id (fun k => absurd k.1 f))⟩
  · rw [if_pos e]
    simp only [decide_eq_true_eq]
    exact ⟨Or.inl, fun h => h.elim id (fun g => absurd g.1 e)⟩
theorem cbF_sto (wt key : Nat → Int64) : STO (cbF wt key) := by
  refine ⟨fun x => ?_, fun x y z h g => ?_, fun x y h => ?_⟩
  · cases e : cbF wt key x x with
    | false => rfl
    | true =>
      rcases cbF_lt.mp e with g | ⟨_, g | ⟨_, g⟩⟩
      · exact absurd g i64_ir
      · exact absurd g i64_ir
      · omega
  · rw [cbF_lt] at h g ⊢
    rcases h with h | ⟨h1, h⟩ <;> rcases g with g | ⟨g1, g⟩
    · exact Or.inl (i64_tr h g)
    · exact Or.inl (g1 ▸ h)
    · exact Or.inl (h1 ▸ g)
    · refine Or.inr ⟨h1.trans g1, ?_⟩
      rcases h with h | ⟨h2, h⟩ <;> rcases g with g | ⟨g2, g⟩
      · exact Or.inl (i64_tr h g)
      · exact Or.inl (g2 ▸ h)
      · exact Or.inl (h2 ▸ g)
      · exact Or.inr ⟨h2.trans g2, by omega⟩
  · rw [cbF_lt, cbF_lt]
    by_cases e : wt x = wt y
    · by_cases f : key x = key y
      · rcases Nat.lt_or_gt_of_ne h with g | g
        · exact Or.inl (Or.inr ⟨e, Or.inr ⟨f, g⟩⟩)
        · exact Or.inr (Or.inr ⟨e.symm, Or.inr ⟨f.symm, g⟩⟩)
      · rcases i64_ne f with g | g
        · exact Or.inl (Or.inr ⟨e, Or.inl g⟩)
        · exact Or.inr (Or.inr ⟨e.symm, Or.inl g⟩)
    · rcases i64_ne e with g | g
      · exact Or.inl (Or.inl g)
      · exact Or.inr (Or.inl g)
theorem i64_not {a b : Int64} : a ^^^ (-1) < b ^^^ (-1) ↔ b < a := by
  rw [Int64.xor_neg_one, Int64.xor_neg_one, Int64.lt_iff_toInt_lt, Int64.lt_iff_toInt_lt, Int64.toInt_not, Int64.toInt_not]
  have h1 := Int64.le_toInt a; have h2 := Int64.toInt_lt a; have h3 := Int64.le_toInt b; have h4 := Int64.toInt_lt b
  rw [Int.bmod_eq_of_le (by omega) (by omega), Int.bmod_eq_of_le (by omega) (by omega)]
  omega
theorem i64_not_inj {a b : Int64} : a ^^^ (-1) = b ^^^ (-1) ↔ a = b := by
  refine ⟨fun h => ?_, fun h => by rw [h]⟩
  rcases Classical.em (a = b) with e | e
  · exact e
  · rcases i64_ne e with g | g
    · exact absurd h.symm (i64_as (i64_not.mpr g))
    · exact absurd h (i64_as (i64_not.mpr g))
/-- the reference's order is the class's -/
theorem aheadB_cb (M : MT) (kd : Nat) (sd : Int64) (x y : Nat) : aheadB M kd sd x y = cbF (wtF (m_srt M) (m_key M) kd sd) (m_key M) x y := by
  unfold aheadB cbF wtF wtA
  by_cases h0 : kd = 0
  · simp only [if_pos h0]
  · by_cases h1 : kd = 1
    · simp only [if_neg h0, if_pos h1]
      by_cases e : m_srt M y = m_srt M x
      · rw [if_neg (show ¬ (m_srt M y ≠ m_srt M x) from fun h => h e), if_neg (show ¬ (m_srt M x ^^^ (-1) ≠ m_srt M y ^^^ (-1)) from fun h => h (by rw [e]))]
      · rw [if_pos e, if_pos (fun h => e (i64_not_inj.mp h).symm)]
        exact decide_eq_decide.mpr i64_not.symm
    · simp only [if_neg h0, if_neg h1]
theorem aheadB_sto (M : MT) (kd : Nat) (sd : Int64) : STO (aheadB M kd sd) := by
  have h : aheadB M kd sd = cbF (wtF (m_srt M) (m_key M) kd sd) (m_key M) := by funext x y; exact aheadB_cb M kd sd x y
  rw [h]; exact cbF_sto _ _
/-- a row that holds those below n that have P, in the order -/
def Enu (ah : Nat → Nat → Bool) (P : Nat → Bool) (n : Nat) (row : Nat → Nat) (c : Nat) : Prop := (∀ i, i < c → row i < n ∧ P (row i) = true) ∧ (∀ i j, i < j → j < c → ah (row i) (row j) = true) ∧ ∀ o, o < n → P o = true → ∃ i, i < c ∧ row i = o
theorem Enu.inj {ah : Nat → Nat → Bool} {P : Nat → Bool} {n c : Nat} {row : Nat → Nat} (hS : STO ah) (h : Enu ah P n row c) {i j : Nat} (hi : i < c) (hj : j < c) (e : row i = row j) : i = j := by
  rcases Nat.lt_trichotomy i j with g | g | g
  · have := h.2.1 i j g hj; rw [e, hS.1] at this; exact absurd this (by decide)
  · exact g
  · have := h.2.1 j i g hi; rw [e, hS.1] at this; exact absurd this (by decide)
theorem Enu.lt {ah : Nat → Nat → Bool} {P : Nat → Bool} {n c : Nat} {row : Nat → Nat} (hS : STO ah) (h : Enu ah P n row c) {i j : Nat} (hi : i < c) (hj : j < c) : ah (row i) (row j) = decide (i < j) := by
  rcases Nat.lt_trichotomy i j with g | g | g
  · rw [h.2.1 i j g hj]; simp [g]
  · subst g; rw [hS.1]; simp
  · rw [hS.asym (h.2.1 j i g hi)]; simp [show ¬ i < j by omega]
/-- a count over those below n, read off a row that lists them -/
theorem cnt_row {P Q : Nat → Bool} {n : Nat} : ∀ (c : Nat) (row : Nat → Nat), (∀ i, i < c → row i < n ∧ P (row i) = true) → (∀ i j, i < c → j < c → row i = row j → i = j) → (∀ o, o < n → P o = true → ∃ i, i < c ∧ row i = o) → cnt (fun o => P o && Q o) n = cnt (fun i => Q (row i)) c := by
  intro c
  induction c generalizing P with
  | zero =>
    intro row _ _ h3
    rw [show cnt (fun i => Q (row i)) 0 = 0 from rfl]
    refine cnt_zero (fun o ho => ?_)
    cases e : P o with
    | false => rfl
    | true => obtain ⟨i, hi, _⟩ := h3 o ho e; omega
  | succ c ih =>
    intro row h1 h2 h3
    have hc := h1 c (Nat.lt_succ_self _)
    have key : cnt (fun o => (P o && !decide (o = row c)) && Q o) n = cnt (fun i => Q (row i)) c := by
      refine ih (P := fun o => P o && !decide (o = row c)) row (fun i hi => ?_) (fun i j hi hj e => h2 i j (by omega) (by omega) e) (fun o ho hp => ?_)
      · have := h1 i (by omega)
        refine ⟨this.1, ?_⟩
        have hne : row i ≠ row c := fun e => by have := h2 i c (by omega) (Nat.lt_succ_self _) e; omega
        simp [this.2, hne]
      · simp only [Bool.and_eq_true, Bool.not_eq_true', decide_eq_false_iff_not] at hp
        obtain ⟨i, hi, e⟩ := h3 o ho hp.1
        refine ⟨i, ?_, e⟩
        have : i ≠ c := fun z => hp.2 (by rw [← e, z])
        omega
    rw [show cnt (fun i => Q (row i)) (c + 1) = cnt (fun i => Q (row i)) c + (if Q (row c) then 1 else 0) from rfl, ← key]
    cases hq : Q (row c) with
    | true =>
      exact cnt_dec (i := row c) hc.1 (by simp [hc.2, hq]) (by simp) (fun k _ hne => by simp [hne])
    | false =>
      simp only [Bool.false_eq_true, if_false, Nat.add_zero]
      refine cnt_congr (fun k _ => ?_)
      by_cases e : k = row c
      · subst e; simp [hq]
      · simp [e]
theorem cnt_lt (i c : Nat) (h : i ≤ c) : cnt (fun j => decide (j < i)) c = i := by
  induction c with
  | zero => have : i = 0 := by omega
            subst this; rfl
  | succ c ih =>
    simp only [cnt]
    by_cases e : i = c + 1
    · subst e
      have : cnt (fun j => decide (j < c + 1)) c = cnt (fun _ => true) c := cnt_congr (fun k hk => by simp; omega)
      rw [this]
      have h9 : ∀ m, cnt (fun _ => true) m = m := by intro m; induction m with
        | zero => rfl
        | succ m im => simp only [cnt]; rw [im]; simp
      rw [h9]; simp
    · rw [ih (by omega)]; simp; omega
theorem cnt_all : ∀ c, cnt (fun _ => true) c = c := by
  intro c; induction c with
  | zero => rfl
  | succ c ih => simp only [cnt, ih]; simp
theorem Enu.count {ah : Nat → Nat → Bool} {P : Nat → Bool} {n c : Nat} {row : Nat → Nat} (hS : STO ah) (h : Enu ah P n row c) : cnt P n = c := by
  have := cnt_row (Q := fun _ => true) c row h.1 (fun i j hi hj e => h.inj hS hi hj e) h.2.2
  rw [cnt_all] at this
  rw [← this]
  exact cnt_congr (fun k _ => by simp)
/-- a hit's place is how many are ahead of it -/
theorem Enu.rank {ah : Nat → Nat → Bool} {P : Nat → Bool} {n c : Nat} {row : Nat → Nat} (hS : STO ah) (h : Enu ah P n row c) {i : Nat} (hi : i < c) : cnt (fun p => P p && ah p (row i)) n = i := by
  rw [cnt_row (Q := fun p => ah p (row i)) c row h.1 (fun i j hi hj e => h.inj hS hi hj e) h.2.2]
  rw [cnt_congr (Q := fun j => decide (j < i)) (fun j hj => h.lt hS hj hi)]
  exact cnt_lt i c (by omega)
theorem fstB_eq {P : Nat → Bool} {n k : Nat} (hk : k < n) (h : P k = true) (hu : ∀ j, j < n → P j = true → j = k) : fstB P n = k := by
  have h1 : fstB P n < n := by
    rcases Nat.lt_or_ge (fstB P n) n with g | g
    · exact g
    · have := fstB_min (P := P) (n := n) (o := k) (by omega)
      rw [h] at this; exact absurd this (by decide)
  exact hu _ h1 (fstB_is h1)
