/-! the class's sort: two runs merged, a pass, all passes -/
def mrS (fr md x y k : Nat) : Prop := (fr ≤ k ∧ k < x) ∨ (md ≤ k ∧ k < y)
def MRI (ah : Nat → Nat → Bool) (row sp : Nat → Nat) (fr md to j x y : Nat) (f : Nat → Nat) : Prop :=
  (fr ≤ x ∧ x ≤ md ∧ md ≤ y ∧ y ≤ to ∧ x + y = md + fr + j) ∧ (∀ i, i < fr ∨ fr + j ≤ i → f i = sp i) ∧ (∀ i, i < j → ∃ k, mrS fr md x y k ∧ f (fr + i) = row k) ∧ (∀ k, mrS fr md x y k → ∃ i, i < j ∧ f (fr + i) = row k) ∧
  (∀ i i', i < i' → i' < j → ah (f (fr + i)) (f (fr + i')) = true) ∧ (∀ i, i < j → ∀ k, ((x ≤ k ∧ k < md) ∨ (y ≤ k ∧ k < to)) → ah (f (fr + i)) (row k) = true)
theorem MRI.step {ah : Nat → Nat → Bool} {row sp : Nat → Nat} {fr md to j x y : Nat} {f : Nat → Nat} (h : MRI ah row sp fr md to j x y f) (x' y' z : Nat) (hz : (z = x ∧ x < md ∧ x' = x + 1 ∧ y' = y) ∨ (z = y ∧ y < to ∧ x' = x ∧ y' = y + 1))
    (ha : ∀ k, ((x' ≤ k ∧ k < md) ∨ (y' ≤ k ∧ k < to)) → ah (row z) (row k) = true) : MRI ah row sp fr md to (j + 1) x' y' (va_up f (fr + j) (row z)) := by
  obtain ⟨⟨h1, h2, h3, h4, h5⟩, h6, h7, h8, h9, h10⟩ := h
  have hlo : ∀ i, i < j → va_up f (fr + j) (row z) (fr + i) = f (fr + i) := fun i hi => va_up_ne _ _ (by omega)
  have hup : ∀ k, mrS fr md x y k → mrS fr md x' y' k := by
    intro k hk
    rcases hk with hk | hk
    · exact Or.inl (by omega)
    · exact Or.inr (by omega)
  have hzS : mrS fr md x' y' z := by
    rcases hz with q | q
    · exact Or.inl (by omega)
    · exact Or.inr (by omega)
  have hzr : (x ≤ z ∧ z < md) ∨ (y ≤ z ∧ z < to) := by
    rcases hz with q | q
    · exact Or.inl (by omega)
    · exact Or.inr (by omega)
  refine ⟨by omega, ?_, ?_, ?_, ?_, ?_⟩
  · intro i hi
    rw [va_up_ne _ _ (by omega)]
    exact h6 i (by omega)
  · intro i hi
    by_cases e : i = j
    · subst e; rw [va_up_self]; exact ⟨z, hzS, rfl⟩
    · obtain ⟨k, hk, ek⟩ := h7 i (by omega)
      rw [hlo i (by omega)]; exact ⟨k, hup k hk, ek⟩
  · intro k hk
    by_cases e : k = z
    · subst e; exact ⟨j, by omega, va_up_self _ _ _⟩
    · have : mrS fr md x y k := by
        rcases hk with hk | hk
        · exact Or.inl (by omega)
        · exact Or.inr (by omega)
      obtain ⟨i, hi, ei⟩ := h8 k this
      exact ⟨i, by omega, (hlo i hi).trans ei⟩
  · intro i i' hi hi'
    rw [hlo i (by omega)]
    by_cases e : i' = j
    · subst e; rw [va_up_self]; exact h10 i hi z hzr
    · rw [hlo i' (by omega)]; exact h9 i i' hi (by omega)
  · intro i hi k hk
    by_cases e : i = j
    · subst e; rw [va_up_self]; exact ha k hk
    · rw [hlo i (by omega)]; exact h10 i (by omega) k (by omega)
/-- what a merge of two runs gives -/
theorem mrF_ok {wt key : Nat → Int64} {row sp : Nat → Nat} {fr md to : Nat} (hfm : fr ≤ md) (hmt : md ≤ to) (hl : ∀ i i', fr ≤ i → i < i' → i' < md → cbF wt key (row i) (row i') = true) (hr : ∀ i i', md ≤ i → i < i' → i' < to → cbF wt key (row i) (row i') = true) (hi : ∀ i i', fr ≤ i → i < to → fr ≤ i' → i' < to → row i = row i' → i = i') :
    (∀ i, i < fr ∨ to ≤ i → mrF row wt key sp fr md to i = sp i) ∧ (∀ i, fr ≤ i → i < to → ∃ k, fr ≤ k ∧ k < to ∧ mrF row wt key sp fr md to i = row k) ∧ (∀ k, fr ≤ k → k < to → ∃ i, fr ≤ i ∧ i < to ∧ mrF row wt key sp fr md to i = row k) ∧ (∀ i i', fr ≤ i → i < i' → i' < to → cbF wt key (mrF row wt key sp fr md to i) (mrF row wt key sp fr md to i') = true) := by
  have hS := cbF_sto wt key
  have hle : ∀ i i', ((fr ≤ i ∧ i' < md) ∨ (md ≤ i ∧ i' < to)) → i < i' → cbF wt key (row i) (row i') = true := by
    intro i i' h1 h2
    rcases h1 with h1 | h1
    · exact hl i i' h1.1 h2 h1.2
    · exact hr i i' h1.1 h2 h1.2
  have key9 : ∀ j, j ≤ to - fr → MRI (cbF wt key) row sp fr md to j (mrI row wt key sp fr md to j).1 (mrI row wt key sp fr md to j).2.1 (mrI row wt key sp fr md to j).2.2 := by
    intro j
    induction j with
    | zero =>
      intro _
      exact ⟨⟨Nat.le_refl _, hfm, Nat.le_refl _, hmt, by simp only [mrI]; omega⟩, fun i _ => rfl, fun i hi => by omega, fun k hk => by rcases hk with hk | hk <;> (simp only [mrI] at hk; omega), fun i i' _ h => by omega, fun i hi => by omega⟩
    | succ j ih =>
      intro hj
      have h := ih (by omega)
      obtain ⟨x, y, f, e⟩ : ∃ x y f, mrI row wt key sp fr md to j = (x, y, f) := ⟨_, _, _, rfl⟩
      rw [e] at h
      dsimp only at h
      obtain ⟨b1, b2, b3, b4, b5⟩ := h.1
      by_cases hc : to ≤ y ∨ (x < md ∧ cbF wt key (row x) (row y) = true)
      · rw [mrI_t e hc]
        refine h.step (x + 1) y x (Or.inl ⟨rfl, by omega, rfl, rfl⟩) (fun k hk => ?_)
        rcases hk with hk | hk
        · exact hl x k b1 (by omega) hk.2
        · rcases hc with hc | hc
          · omega
          · by_cases ey : k = y
            · rw [ey]; exact hc.2
            · exact hS.2.1 _ _ _ hc.2 (hr y k b3 (by omega) hk.2)
      · have h1 : y < to := by
          rcases Nat.lt_or_ge y to with g | g
          · exact g
          · exact absurd (Or.inl g) hc
        have h2 : md ≤ x ∨ cbF wt key (row x) (row y) = false := by
          rcases Nat.lt_or_ge x md with g | g
          · refine Or.inr ?_
            cases ec : cbF wt key (row x) (row y) with
            | false => rfl
            | true => exact absurd (Or.inr ⟨g, ec⟩) hc
          · exact Or.inl g
        rw [mrI_f e h1 h2]
        refine h.step x (y + 1) y (Or.inr ⟨rfl, h1, rfl, rfl⟩) (fun k hk => ?_)
        rcases hk with hk | hk
        · rcases h2 with h2 | h2
          · omega
          · have hyx : cbF wt key (row y) (row x) = true := by
              rcases hS.2.2 (row x) (row y) (fun e9 => by have := hi x y b1 (by omega) (by omega) h1 e9; omega) with g | g
              · rw [h2] at g; exact absurd g (by decide)
              · exact g
            by_cases ex : k = x
            · rw [ex]; exact hyx
            · exact hS.2.1 _ _ _ hyx (hl x k b1 (by omega) hk.2)
        · exact hr y k b3 (by omega) hk.2
  have hf := key9 (to - fr) (Nat.le_refl _)
  obtain ⟨⟨b1, b2, b3, b4, b5⟩, h6, h7, h8, h9, -⟩ := hf
  have ex : (mrI row wt key sp fr md to (to - fr)).1 = md := by omega
  have ey : (mrI row wt key sp fr md to (to - fr)).2.1 = to := by omega
  rw [ex, ey] at h7 h8
  refine ⟨fun i hi9 => h6 i (by omega), fun i g1 g2 => ?_, fun k g1 g2 => ?_, fun i i' g1 g2 g3 => ?_⟩
  · obtain ⟨k, hk, e⟩ := h7 (i - fr) (by omega)
    rw [show fr + (i - fr) = i by omega] at e
    rcases hk with hk | hk
    · exact ⟨k, hk.1, by omega, e⟩
    · exact ⟨k, by omega, hk.2, e⟩
  · obtain ⟨i, hi9, e⟩ := h8 k (by unfold mrS; omega)
    exact ⟨fr + i, by omega, by omega, e⟩
  · have := h9 (i - fr) (i' - fr) (by omega) (by omega)
    rw [show fr + (i - fr) = i by omega, show fr + (i' - fr) = i' by omega] at this
    exact this
/-- runs of a width stand in order -/
def Runs (wt key : Nat → Int64) (row : Nat → Nat) (n w : Nat) : Prop := ∀ i i', i < i' → i' < n → i / w = i' / w → cbF wt key (row i) (row i') = true
def Inj (row : Nat → Nat) (n : Nat) : Prop := ∀ i i', i < n → i' < n → row i = row i' → i = i'
/-- two rows hold the same -/
def Same (f g : Nat → Nat) (n : Nat) : Prop := (∀ i, i < n → ∃ k, k < n ∧ f i = g k) ∧ ∀ k, k < n → ∃ i, i < n ∧ f i = g k
theorem Same.trans {f g h : Nat → Nat} {n : Nat} (a : Same f g n) (b : Same g h n) : Same f h n := by
  refine ⟨fun i hi => ?_, fun k hk => ?_⟩
  · obtain ⟨j, hj, e⟩ := a.1 i hi
    obtain ⟨k, hk, e'⟩ := b.1 j hj
    exact ⟨k, hk, e.trans e'⟩
  · obtain ⟨j, hj, e⟩ := b.2 k hk
    obtain ⟨i, hi, e'⟩ := a.2 j hj
    exact ⟨i, hi, e'.trans e⟩
theorem div_eq_of {a w q : Nat} (hw : 0 < w) (h1 : w * q ≤ a) (h2 : a < w * q + w) : a / w = q := by
  rw [Nat.div_eq_iff hw]
  constructor
  · rw [Nat.mul_comm]; omega
  · rw [Nat.mul_comm q w]; omega
theorem div_bd {a w : Nat} (hw : 0 < w) : w * (a / w) ≤ a ∧ a < w * (a / w) + w := by
  have h1 := Nat.mul_div_le a w
  have h2 := Nat.lt_mul_div_succ a hw
  rw [Nat.mul_add, Nat.mul_one] at h2
  exact ⟨h1, h2⟩
/-- a pass -/
theorem psL_ok {wt key : Nat → Int64} {row sp : Nat → Nat} {n w : Nat} (hw : 0 < w) (hr : Runs wt key row n w) (hi : Inj row n) :
    ∀ t, (∀ b, b < t → (∀ i, 2 * w * b ≤ i → i < min (2 * w * b + 2 * w) n → ∃ k, 2 * w * b ≤ k ∧ k < min (2 * w * b + 2 * w) n ∧ psL row wt key sp n w t i = row k) ∧ (∀ k, 2 * w * b ≤ k → k < min (2 * w * b + 2 * w) n → ∃ i, 2 * w * b ≤ i ∧ i < min (2 * w * b + 2 * w) n ∧ psL row wt key sp n w t i = row k) ∧ (∀ i i', 2 * w * b ≤ i → i < i' → i' < min (2 * w * b + 2 * w) n → cbF wt key (psL row wt key sp n w t i) (psL row wt key sp n w t i') = true)) := by
  intro t
  induction t with
  | zero => intro b hb; omega
  | succ t ih =>
    have hlow : ∀ b, b < t → 2 * w * b + 2 * w ≤ 2 * w * t := by
      intro b hb
      have h1 : 2 * w * (b + 1) ≤ 2 * w * t := Nat.mul_le_mul_left _ hb
      rw [Nat.mul_add, Nat.mul_one] at h1
      exact h1
    by_cases hn : 2 * w * t ≤ n
    · have hm := mrF_ok (wt := wt) (key := key) (row := row) (sp := psL row wt key sp n w t) (fr := 2 * w * t) (md := min (2 * w * t + w) n) (to := min (2 * w * t + 2 * w) n) (by omega) (by omega)
        (fun i i' h1 h2 h3 => hr i i' h2 (by omega) (by
          have e : 2 * w * t = w * (2 * t) := by rw [Nat.mul_comm 2 w, Nat.mul_assoc]
          rw [div_eq_of (q := 2 * t) hw (by omega) (by omega), div_eq_of (q := 2 * t) hw (by omega) (by omega)]))
        (fun i i' h1 h2 h3 => hr i i' h2 (by omega) (by
          have e : 2 * w * t = w * (2 * t) := by rw [Nat.mul_comm 2 w, Nat.mul_assoc]
          have e2 : w * (2 * t + 1) = w * (2 * t) + w := by rw [Nat.mul_add, Nat.mul_one]
          rw [div_eq_of (q := 2 * t + 1) hw (by omega) (by omega), div_eq_of (q := 2 * t + 1) hw (by omega) (by omega)]))
        (fun i i' _ h2 _ h4 e => hi i i' (by omega) (by omega) e)
      intro b hb
      by_cases e : b = t
      · subst e; exact ⟨fun i h1 h2 => hm.2.1 i h1 h2, fun k h1 h2 => hm.2.2.1 k h1 h2, fun i i' h1 h2 h3 => hm.2.2.2 i i' h1 h2 h3⟩
      · have hb' : b < t := by omega
        have hl := hlow b hb'
        obtain ⟨a1, a2, a3⟩ := ih b hb'
        have hsame : ∀ i, i < min (2 * w * b + 2 * w) n → psL row wt key sp n w (t + 1) i = psL row wt key sp n w t i := fun i h => hm.1 i (Or.inl (by omega))
        refine ⟨fun i h1 h2 => ?_, fun k h1 h2 => ?_, fun i i' h1 h2 h3 => ?_⟩
        · rw [hsame i h2]; exact a1 i h1 h2
        · obtain ⟨i, g1, g2, g3⟩ := a2 k h1 h2
          exact ⟨i, g1, g2, (hsame i g2).trans g3⟩
        · rw [hsame i (by omega), hsame i' h3]; exact a3 i i' h1 h2 h3
    · have hm : ∀ i, psL row wt key sp n w (t + 1) i = psL row wt key sp n w t i := by
        intro i
        simp only [psL]
        rw [show min (2 * w * t + 2 * w) n = n by omega]
        unfold mrF
        rw [show n - 2 * w * t = 0 by omega]
        rfl
      intro b hb
      by_cases e : b = t
      · subst e
        exact ⟨fun i h1 h2 => by omega, fun k h1 h2 => by omega, fun i i' h1 h2 h3 => by omega⟩
      · obtain ⟨a1, a2, a3⟩ := ih b (by omega)
        refine ⟨fun i h1 h2 => ?_, fun k h1 h2 => ?_, fun i i' h1 h2 h3 => ?_⟩
        · rw [hm i]; exact a1 i h1 h2
        · obtain ⟨i, g1, g2, g3⟩ := a2 k h1 h2
          exact ⟨i, g1, g2, (hm i).trans g3⟩
        · rw [hm i, hm i']; exact a3 i i' h1 h2 h3
theorem pass_ok {wt key : Nat → Int64} {row sp : Nat → Nat} {n w : Nat} (hw : 0 < w) (hr : Runs wt key row n w) (hi : Inj row n) : Runs wt key (psL row wt key sp n w (blk n w)) n (2 * w) ∧ Inj (psL row wt key sp n w (blk n w)) n ∧ Same (psL row wt key sp n w (blk n w)) row n := by
  have hp := psL_ok (sp := sp) hw hr hi (blk n w)
  have hW : 0 < 2 * w := by omega
  have hb : ∀ i, i < n → i / (2 * w) < blk n w := by
    intro i h
    unfold blk
    rw [Nat.div_lt_iff_lt_mul hW, Nat.mul_comm ((n + 2 * w - 1) / (2 * w)) (2 * w)]
    have h1 := (div_bd (a := n + 2 * w - 1) hW).2
    omega
  have hin : ∀ i, i < n → ∃ k, k < n ∧ k / (2 * w) = i / (2 * w) ∧ psL row wt key sp n w (blk n w) i = row k := by
    intro i h
    have hd := div_bd (a := i) hW
    obtain ⟨k, k1, k2, k3⟩ := (hp _ (hb i h)).1 i hd.1 (by omega)
    exact ⟨k, by omega, div_eq_of hW k1 (by omega), k3⟩
  have hsort : Runs wt key (psL row wt key sp n w (blk n w)) n (2 * w) := by
    intro i i' h1 h2 h3
    have hd := div_bd (a := i) hW
    have hd' := div_bd (a := i') hW
    rw [← h3] at hd'
    exact (hp _ (hb i (by omega))).2.2 i i' hd.1 h1 (by omega)
  refine ⟨hsort, ?_, ?_, ?_⟩
  · intro i i' h1 h2 e
    obtain ⟨k, k1, k2, k3⟩ := hin i h1
    obtain ⟨k', k1', k2', k3'⟩ := hin i' h2
    have ek := hi k k' k1 k1' (k3.symm.trans (e.trans k3'))
    have eb : i / (2 * w) = i' / (2 * w) := by rw [← k2, ← k2', ek]
    have hS := cbF_sto wt key
    rcases Nat.lt_trichotomy i i' with g | g | g
    · have := hsort i i' g h2 eb; rw [e, hS.1] at this; exact absurd this (by decide)
    · exact g
    · have := hsort i' i g h1 eb.symm; rw [e, hS.1] at this; exact absurd this (by decide)
  · intro i h
    obtain ⟨k, k1, _, k3⟩ := hin i h
    exact ⟨k, k1, k3⟩
  · intro k h
    have hd := div_bd (a := k) hW
    obtain ⟨i, i1, i2, i3⟩ := (hp _ (hb k h)).2.1 k hd.1 (by omega)
    exact ⟨i, by omega, i3⟩
theorem srtL_ok {wt key : Nat → Int64} {n : Nat} {row sp : Nat → Nat} {ra rb : Nat} (hi : Inj row n) : ∀ p, Runs wt key (srtL wt key n row sp ra rb p).1 n (2 ^ p) ∧ Inj (srtL wt key n row sp ra rb p).1 n ∧ Same (srtL wt key n row sp ra rb p).1 row n := by
  intro p
  induction p with
  | zero =>
    refine ⟨fun i i' h1 h2 h3 => ?_, hi, fun i h => ⟨i, h, rfl⟩, fun k h => ⟨k, h, rfl⟩⟩
    rw [Nat.pow_zero, Nat.div_one, Nat.div_one] at h3; omega
  | succ p ih =>
    have h := pass_ok (sp := (srtL wt key n row sp ra rb p).2.1) (Nat.two_pow_pos p) ih.1 ih.2.1
    refine ⟨?_, h.2.1, h.2.2.trans ih.2.2⟩
    rw [Nat.pow_succ, Nat.mul_comm]
    exact h.1
theorem npass_ok {n : Nat} (h : n ≤ 300) : n ≤ 2 ^ npass n := by
  have h1 : npass n < 10 := by
    unfold npass
    rcases Nat.lt_or_ge (fstB (fun p => decide (n ≤ 2 ^ p)) 10) 10 with g | g
    · exact g
    · have := fstB_min (P := fun p => decide (n ≤ 2 ^ p)) (n := 10) (o := 9) (by omega)
      simp only [decide_eq_false_iff_not] at this
      omega
  have := fstB_is (P := fun p => decide (n ≤ 2 ^ p)) (n := 10) h1
  unfold npass
  simpa using this
/-- all passes: the row in order, holding what it held -/
theorem sort_ok {wt key : Nat → Int64} {n : Nat} {row sp : Nat → Nat} {ra rb : Nat} (hn : n ≤ 300) (hi : Inj row n) : (∀ i i', i < i' → i' < n → cbF wt key ((srtL wt key n row sp ra rb (npass n)).1 i) ((srtL wt key n row sp ra rb (npass n)).1 i') = true) ∧ Same (srtL wt key n row sp ra rb (npass n)).1 row n := by
  have h := srtL_ok (wt := wt) (key := key) (sp := sp) (ra := ra) (rb := rb) hi (npass n)
  have hp := npass_ok hn
  refine ⟨fun i i' h1 h2 => h.1 i i' h1 h2 ?_, h.2.2⟩
  rw [Nat.div_eq_of_lt (by omega), Nat.div_eq_of_lt (by omega)]
/-- the weights of those in the row -/
theorem wgL_at {srt key wt : Nat → Int64} {row : Nat → Nat} {kd : Nat} {sd : Int64} : ∀ n i, i < n → wgL srt key wt row kd sd n (row i) = wtF srt key kd sd (row i) := by
  intro n
  induction n with
  | zero => intro i hi; omega
  | succ n ih =>
    intro i hi
    simp only [wgL]
    by_cases e : row i = row n
    · rw [e, va_up_self]
    · rw [va_up_ne _ _ e]
      exact ih i (by
        have : i ≠ n := fun z => e (by rw [z])
        omega)
