/-! the ranking's loops, by what its rows hold -/
/-- one step of a merge: which row goes on -/
def mrI (row : Nat → Nat) (wt key : Nat → Int64) (sp : Nat → Nat) (fr md to : Nat) : Nat → Nat × Nat × (Nat → Nat)
  | 0 => (fr, md, sp)
  | j + 1 => if decide (to ≤ (mrI row wt key sp fr md to j).2.1) || (decide ((mrI row wt key sp fr md to j).1 < md) && cbF wt key (row (mrI row wt key sp fr md to j).1) (row (mrI row wt key sp fr md to j).2.1))
    then ((mrI row wt key sp fr md to j).1 + 1, (mrI row wt key sp fr md to j).2.1, va_up (mrI row wt key sp fr md to j).2.2 (fr + j) (row (mrI row wt key sp fr md to j).1))
    else ((mrI row wt key sp fr md to j).1, (mrI row wt key sp fr md to j).2.1 + 1, va_up (mrI row wt key sp fr md to j).2.2 (fr + j) (row (mrI row wt key sp fr md to j).2.1))
theorem mrI_t {row : Nat → Nat} {wt key : Nat → Int64} {sp f : Nat → Nat} {fr md to j x y : Nat} (h : mrI row wt key sp fr md to j = (x, y, f)) (hc : to ≤ y ∨ (x < md ∧ cbF wt key (row x) (row y) = true)) : mrI row wt key sp fr md to (j + 1) = (x + 1, y, va_up f (fr + j) (row x)) := by
  simp only [mrI, h]
  rw [if_pos (by simpa using hc)]
theorem mrI_f {row : Nat → Nat} {wt key : Nat → Int64} {sp f : Nat → Nat} {fr md to j x y : Nat} (h : mrI row wt key sp fr md to j = (x, y, f)) (h1 : y < to) (hc : md ≤ x ∨ cbF wt key (row x) (row y) = false) : mrI row wt key sp fr md to (j + 1) = (x, y + 1, va_up f (fr + j) (row y)) := by
  simp only [mrI, h]
  rw [if_neg (by
    simp only [Bool.or_eq_true, decide_eq_true_eq, Bool.and_eq_true, not_or, not_and]
    refine ⟨by omega, fun hx => ?_⟩
    rcases hc with q | q
    · omega
    · simp [q])]
/-- a merged row -/
def mrF (row : Nat → Nat) (wt key : Nat → Int64) (sp : Nat → Nat) (fr md to : Nat) : Nat → Nat := (mrI row wt key sp fr md to (to - fr)).2.2
theorem mrI_lt {row sp : Nat → Nat} {wt key : Nat → Int64} {fr md to b : Nat} (h1 : ∀ j, row j < b) (h2 : ∀ j, sp j < b) : ∀ j i, (mrI row wt key sp fr md to j).2.2 i < b := by
  intro j
  induction j with
  | zero => exact h2
  | succ j ih => intro i; simp only [mrI]; split
                 · exact up_lt ih (h1 _) i
                 · exact up_lt ih (h1 _) i
/-- the weights -/
def wgL (srt key wt : Nat → Int64) (row : Nat → Nat) (kd : Nat) (sd : Int64) : Nat → Nat → Int64
  | 0 => wt
  | i + 1 => va_up (wgL srt key wt row kd sd i) (row i) (wtF srt key kd sd (row i))
/-- one pass: the runs of a width, merged two by two, the first t of them -/
def psL (row : Nat → Nat) (wt key : Nat → Int64) (sp : Nat → Nat) (n w : Nat) : Nat → Nat → Nat
  | 0 => sp
  | t + 1 => mrF row wt key (psL row wt key sp n w t) (2 * w * t) (min (2 * w * t + w) n) (min (2 * w * t + 2 * w) n)
theorem psL_lt {row sp : Nat → Nat} {wt key : Nat → Int64} {n w b : Nat} (h1 : ∀ j, row j < b) (h2 : ∀ j, sp j < b) : ∀ t i, psL row wt key sp n w t i < b := by
  intro t
  induction t with
  | zero => exact h2
  | succ t ih => intro i; exact mrI_lt h1 ih _ i
/-- how many blocks of a width there are -/
def blk (n w : Nat) : Nat := (n + 2 * w - 1) / (2 * w)
/-- the rows (and their cells) behind p passes -/
def srtL (wt key : Nat → Int64) (n : Nat) (row sp : Nat → Nat) (ra rb : Nat) : Nat → (Nat → Nat) × (Nat → Nat) × Nat × Nat
  | 0 => (row, sp, ra, rb)
  | p + 1 => (psL (srtL wt key n row sp ra rb p).1 wt key (srtL wt key n row sp ra rb p).2.1 n (2 ^ p) (blk n (2 ^ p)), (srtL wt key n row sp ra rb p).1, (srtL wt key n row sp ra rb p).2.2.2, (srtL wt key n row sp ra rb p).2.2.1)
theorem srtL_lt {wt key : Nat → Int64} {n : Nat} {row sp : Nat → Nat} {ra rb b : Nat} (h1 : ∀ j, row j < b) (h2 : ∀ j, sp j < b) : ∀ p, (∀ j, (srtL wt key n row sp ra rb p).1 j < b) ∧ ∀ j, (srtL wt key n row sp ra rb p).2.1 j < b := by
  intro p
  induction p with
  | zero => exact ⟨h1, h2⟩
  | succ p ih => exact ⟨psL_lt ih.1 ih.2 _, ih.1⟩
/-- how many passes: the least p with n ≤ 2 ^ p -/
def npass (n : Nat) : Nat := fstB (fun p => decide (n ≤ 2 ^ p)) 10
/-- 'met' emptied -/
def meL (kin row : Nat → Nat) (met : Nat → Bool) : Nat → Nat → Bool
  | 0 => met
  | i + 1 => va_up (meL kin row met i) (kin (row i)) false
/-- groups listed: how many, met, kins -/
def lgL (kin row : Nat → Nat) (met : Nat → Bool) (kis : Nat → Nat) : Nat → Nat × (Nat → Bool) × (Nat → Nat)
  | 0 => (0, met, kis)
  | i + 1 => if (lgL kin row met kis i).2.1 (kin (row i)) then lgL kin row met kis i else ((lgL kin row met kis i).1 + 1, va_up (lgL kin row met kis i).2.1 (kin (row i)) true, va_up (lgL kin row met kis i).2.2 (lgL kin row met kis i).1 (kin (row i)))
theorem lgL_t {kin row : Nat → Nat} {met me : Nat → Bool} {kis ks : Nat → Nat} {i k : Nat} (h : lgL kin row met kis i = (k, me, ks)) (hc : me (kin (row i)) = true) : lgL kin row met kis (i + 1) = (k, me, ks) := by
  simp only [lgL, h]; rw [if_pos hc]
theorem lgL_f {kin row : Nat → Nat} {met me : Nat → Bool} {kis ks : Nat → Nat} {i k : Nat} (h : lgL kin row met kis i = (k, me, ks)) (hc : me (kin (row i)) = false) : lgL kin row met kis (i + 1) = (k + 1, va_up me (kin (row i)) true, va_up ks k (kin (row i))) := by
  simp only [lgL, h]; rw [if_neg (by rw [hc]; decide)]
theorem lgL_le (kin row : Nat → Nat) (met : Nat → Bool) (kis : Nat → Nat) (i : Nat) : (lgL kin row met kis i).1 ≤ i := by
  induction i with
  | zero => exact Nat.le_refl _
  | succ i ih => simp only [lgL]; split
                 · omega
                 · show (lgL kin row met kis i).1 + 1 ≤ i + 1; omega
theorem lgL_lt {kin row : Nat → Nat} {met : Nat → Bool} {kis : Nat → Nat} {b : Nat} (h1 : ∀ j, kin j < b) (h2 : ∀ j, kis j < b) : ∀ i j, (lgL kin row met kis i).2.2 j < b := by
  intro i
  induction i with
  | zero => exact h2
  | succ i ih => intro j; simp only [lgL]; split
                 · exact ih j
                 · exact up_lt ih (h1 _) j
/-- a row narrowed to those that have it: how many, the row -/
def nrL (P : Nat → Bool) (row : Nat → Nat) : Nat → Nat × (Nat → Nat)
  | 0 => (0, row)
  | i + 1 => if P ((nrL P row i).2 i) then ((nrL P row i).1 + 1, va_up (nrL P row i).2 (nrL P row i).1 ((nrL P row i).2 i)) else nrL P row i
theorem nrL_t {P : Nat → Bool} {row f : Nat → Nat} {i k : Nat} (h : nrL P row i = (k, f)) (hc : P (f i) = true) : nrL P row (i + 1) = (k + 1, va_up f k (f i)) := by
  simp only [nrL, h]; rw [if_pos hc]
theorem nrL_f {P : Nat → Bool} {row f : Nat → Nat} {i k : Nat} (h : nrL P row i = (k, f)) (hc : P (f i) = false) : nrL P row (i + 1) = (k, f) := by
  simp only [nrL, h]; rw [if_neg (by rw [hc]; decide)]
theorem nrL_le (P : Nat → Bool) (row : Nat → Nat) (i : Nat) : (nrL P row i).1 ≤ i := by
  induction i with
  | zero => exact Nat.le_refl _
  | succ i ih => simp only [nrL]; split
                 · show (nrL P row i).1 + 1 ≤ i + 1; omega
                 · omega
theorem nrL_lt {P : Nat → Bool} {row : Nat → Nat} {b : Nat} (h1 : ∀ j, row j < b) : ∀ i j, (nrL P row i).2 j < b := by
  intro i
  induction i with
  | zero => exact h1
  | succ i ih => intro j; simp only [nrL]; split
                 · exact up_lt ih (ih _) j
                 · exact ih j
