/-! the class's views and readers as tables -/
def VRec : Type := Nat × Nat × Nat × Nat × Nat × Nat × Nat × Nat × Nat × (Nat → Nat) × (Nat → Bool)
def vMk (q : Nat) (hs : Nat) (se : Nat) (c : Nat) (g : Nat) (st : Nat) (r : Nat) (n : Nat) (sn : Nat) (f : Nat → Nat) (sf : Nat → Bool) : VRec := (q, hs, se, c, g, st, r, n, sn, f, sf)
def VRec.q (X : VRec) : Nat := (show Nat × Nat × Nat × Nat × Nat × Nat × Nat × Nat × Nat × (Nat → Nat) × (Nat → Bool) from X).1
def VRec.hs (X : VRec) : Nat := (show Nat × Nat × Nat × Nat × Nat × Nat × Nat × Nat × Nat × (Nat → Nat) × (Nat → Bool) from X).2.1
def VRec.se (X : VRec) : Nat := (show Nat × Nat × Nat × Nat × Nat × Nat × Nat × Nat × Nat × (Nat → Nat) × (Nat → Bool) from X).2.2.1
def VRec.c (X : VRec) : Nat := (show Nat × Nat × Nat × Nat × Nat × Nat × Nat × Nat × Nat × (Nat → Nat) × (Nat → Bool) from X).2.2.2.1
def VRec.g (X : VRec) : Nat := (show Nat × Nat × Nat × Nat × Nat × Nat × Nat × Nat × Nat × (Nat → Nat) × (Nat → Bool) from X).2.2.2.2.1
def VRec.st (X : VRec) : Nat := (show Nat × Nat × Nat × Nat × Nat × Nat × Nat × Nat × Nat × (Nat → Nat) × (Nat → Bool) from X).2.2.2.2.2.1
def VRec.r (X : VRec) : Nat := (show Nat × Nat × Nat × Nat × Nat × Nat × Nat × Nat × Nat × (Nat → Nat) × (Nat → Bool) from X).2.2.2.2.2.2.1
def VRec.n (X : VRec) : Nat := (show Nat × Nat × Nat × Nat × Nat × Nat × Nat × Nat × Nat × (Nat → Nat) × (Nat → Bool) from X).2.2.2.2.2.2.2.1
def VRec.sn (X : VRec) : Nat := (show Nat × Nat × Nat × Nat × Nat × Nat × Nat × Nat × Nat × (Nat → Nat) × (Nat → Bool) from X).2.2.2.2.2.2.2.2.1
def VRec.f (X : VRec) : Nat → Nat := (show Nat × Nat × Nat × Nat × Nat × Nat × Nat × Nat × Nat × (Nat → Nat) × (Nat → Bool) from X).2.2.2.2.2.2.2.2.2.1
def VRec.sf (X : VRec) : Nat → Bool := (show Nat × Nat × Nat × Nat × Nat × Nat × Nat × Nat × Nat × (Nat → Nat) × (Nat → Bool) from X).2.2.2.2.2.2.2.2.2.2
theorem vMk_q {q : Nat} {hs : Nat} {se : Nat} {c : Nat} {g : Nat} {st : Nat} {r : Nat} {n : Nat} {sn : Nat} {f : Nat → Nat} {sf : Nat → Bool} : (vMk q hs se c g st r n sn f sf).q = q := rfl
theorem vMk_hs {q : Nat} {hs : Nat} {se : Nat} {c : Nat} {g : Nat} {st : Nat} {r : Nat} {n : Nat} {sn : Nat} {f : Nat → Nat} {sf : Nat → Bool} : (vMk q hs se c g st r n sn f sf).hs = hs := rfl
theorem vMk_se {q : Nat} {hs : Nat} {se : Nat} {c : Nat} {g : Nat} {st : Nat} {r : Nat} {n : Nat} {sn : Nat} {f : Nat → Nat} {sf : Nat → Bool} : (vMk q hs se c g st r n sn f sf).se = se := rfl
theorem vMk_c {q : Nat} {hs : Nat} {se : Nat} {c : Nat} {g : Nat} {st : Nat} {r : Nat} {n : Nat} {sn : Nat} {f : Nat → Nat} {sf : Nat → Bool} : (vMk q hs se c g st r n sn f sf).c = c := rfl
theorem vMk_g {q : Nat} {hs : Nat} {se : Nat} {c : Nat} {g : Nat} {st : Nat} {r : Nat} {n : Nat} {sn : Nat} {f : Nat → Nat} {sf : Nat → Bool} : (vMk q hs se c g st r n sn f sf).g = g := rfl
theorem vMk_st {q : Nat} {hs : Nat} {se : Nat} {c : Nat} {g : Nat} {st : Nat} {r : Nat} {n : Nat} {sn : Nat} {f : Nat → Nat} {sf : Nat → Bool} : (vMk q hs se c g st r n sn f sf).st = st := rfl
theorem vMk_r {q : Nat} {hs : Nat} {se : Nat} {c : Nat} {g : Nat} {st : Nat} {r : Nat} {n : Nat} {sn : Nat} {f : Nat → Nat} {sf : Nat → Bool} : (vMk q hs se c g st r n sn f sf).r = r := rfl
theorem vMk_n {q : Nat} {hs : Nat} {se : Nat} {c : Nat} {g : Nat} {st : Nat} {r : Nat} {n : Nat} {sn : Nat} {f : Nat → Nat} {sf : Nat → Bool} : (vMk q hs se c g st r n sn f sf).n = n := rfl
theorem vMk_sn {q : Nat} {hs : Nat} {se : Nat} {c : Nat} {g : Nat} {st : Nat} {r : Nat} {n : Nat} {sn : Nat} {f : Nat → Nat} {sf : Nat → Bool} : (vMk q hs se c g st r n sn f sf).sn = sn := rfl
theorem vMk_f {q : Nat} {hs : Nat} {se : Nat} {c : Nat} {g : Nat} {st : Nat} {r : Nat} {n : Nat} {sn : Nat} {f : Nat → Nat} {sf : Nat → Bool} : (vMk q hs se c g st r n sn f sf).f = f := rfl
theorem vMk_sf {q : Nat} {hs : Nat} {se : Nat} {c : Nat} {g : Nat} {st : Nat} {r : Nat} {n : Nat} {sn : Nat} {f : Nat → Nat} {sf : Nat → Bool} : (vMk q hs se c g st r n sn f sf).sf = sf := rfl
def RRec : Type := Nat × Nat × Nat × Bool × Nat × Nat × Nat × Bool × Nat × (Nat → Nat)
def rMk (q : Nat) (v : Nat) (hs : Nat) (cu : Bool) (kp : Nat) (gv : Nat) (en : Nat) (ed : Bool) (n : Nat) (f : Nat → Nat) : RRec := (q, v, hs, cu, kp, gv, en, ed, n, f)
def RRec.q (X : RRec) : Nat := (show Nat × Nat × Nat × Bool × Nat × Nat × Nat × Bool × Nat × (Nat → Nat) from X).1
def RRec.v (X : RRec) : Nat := (show Nat × Nat × Nat × Bool × Nat × Nat × Nat × Bool × Nat × (Nat → Nat) from X).2.1
def RRec.hs (X : RRec) : Nat := (show Nat × Nat × Nat × Bool × Nat × Nat × Nat × Bool × Nat × (Nat → Nat) from X).2.2.1
def RRec.cu (X : RRec) : Bool := (show Nat × Nat × Nat × Bool × Nat × Nat × Nat × Bool × Nat × (Nat → Nat) from X).2.2.2.1
def RRec.kp (X : RRec) : Nat := (show Nat × Nat × Nat × Bool × Nat × Nat × Nat × Bool × Nat × (Nat → Nat) from X).2.2.2.2.1
def RRec.gv (X : RRec) : Nat := (show Nat × Nat × Nat × Bool × Nat × Nat × Nat × Bool × Nat × (Nat → Nat) from X).2.2.2.2.2.1
def RRec.en (X : RRec) : Nat := (show Nat × Nat × Nat × Bool × Nat × Nat × Nat × Bool × Nat × (Nat → Nat) from X).2.2.2.2.2.2.1
def RRec.ed (X : RRec) : Bool := (show Nat × Nat × Nat × Bool × Nat × Nat × Nat × Bool × Nat × (Nat → Nat) from X).2.2.2.2.2.2.2.1
def RRec.n (X : RRec) : Nat := (show Nat × Nat × Nat × Bool × Nat × Nat × Nat × Bool × Nat × (Nat → Nat) from X).2.2.2.2.2.2.2.2.1
def RRec.f (X : RRec) : Nat → Nat := (show Nat × Nat × Nat × Bool × Nat × Nat × Nat × Bool × Nat × (Nat → Nat) from X).2.2.2.2.2.2.2.2.2
theorem rMk_q {q : Nat} {v : Nat} {hs : Nat} {cu : Bool} {kp : Nat} {gv : Nat} {en : Nat} {ed : Bool} {n : Nat} {f : Nat → Nat} : (rMk q v hs cu kp gv en ed n f).q = q := rfl
theorem rMk_v {q : Nat} {v : Nat} {hs : Nat} {cu : Bool} {kp : Nat} {gv : Nat} {en : Nat} {ed : Bool} {n : Nat} {f : Nat → Nat} : (rMk q v hs cu kp gv en ed n f).v = v := rfl
theorem rMk_hs {q : Nat} {v : Nat} {hs : Nat} {cu : Bool} {kp : Nat} {gv : Nat} {en : Nat} {ed : Bool} {n : Nat} {f : Nat → Nat} : (rMk q v hs cu kp gv en ed n f).hs = hs := rfl
theorem rMk_cu {q : Nat} {v : Nat} {hs : Nat} {cu : Bool} {kp : Nat} {gv : Nat} {en : Nat} {ed : Bool} {n : Nat} {f : Nat → Nat} : (rMk q v hs cu kp gv en ed n f).cu = cu := rfl
theorem rMk_kp {q : Nat} {v : Nat} {hs : Nat} {cu : Bool} {kp : Nat} {gv : Nat} {en : Nat} {ed : Bool} {n : Nat} {f : Nat → Nat} : (rMk q v hs cu kp gv en ed n f).kp = kp := rfl
theorem rMk_gv {q : Nat} {v : Nat} {hs : Nat} {cu : Bool} {kp : Nat} {gv : Nat} {en : Nat} {ed : Bool} {n : Nat} {f : Nat → Nat} : (rMk q v hs cu kp gv en ed n f).gv = gv := rfl
theorem rMk_en {q : Nat} {v : Nat} {hs : Nat} {cu : Bool} {kp : Nat} {gv : Nat} {en : Nat} {ed : Bool} {n : Nat} {f : Nat → Nat} : (rMk q v hs cu kp gv en ed n f).en = en := rfl
theorem rMk_ed {q : Nat} {v : Nat} {hs : Nat} {cu : Bool} {kp : Nat} {gv : Nat} {en : Nat} {ed : Bool} {n : Nat} {f : Nat → Nat} : (rMk q v hs cu kp gv en ed n f).ed = ed := rfl
theorem rMk_n {q : Nat} {v : Nat} {hs : Nat} {cu : Bool} {kp : Nat} {gv : Nat} {en : Nat} {ed : Bool} {n : Nat} {f : Nat → Nat} : (rMk q v hs cu kp gv en ed n f).n = n := rfl
theorem rMk_f {q : Nat} {v : Nat} {hs : Nat} {cu : Bool} {kp : Nat} {gv : Nat} {en : Nat} {ed : Bool} {n : Nat} {f : Nat → Nat} : (rMk q v hs cu kp gv en ed n f).f = f := rfl
def VRec.idle (X : VRec) : VRec := vMk X.q X.hs X.se (0) (0) (2) X.r X.n X.sn X.f X.sf
theorem idle_q (X : VRec) : X.idle.q = X.q := rfl
theorem idle_hs (X : VRec) : X.idle.hs = X.hs := rfl
theorem idle_se (X : VRec) : X.idle.se = X.se := rfl
theorem idle_c (X : VRec) : X.idle.c = 0 := rfl
theorem idle_g (X : VRec) : X.idle.g = 0 := rfl
theorem idle_st (X : VRec) : X.idle.st = 2 := rfl
theorem idle_r (X : VRec) : X.idle.r = X.r := rfl
theorem idle_n (X : VRec) : X.idle.n = X.n := rfl
theorem idle_sn (X : VRec) : X.idle.sn = X.sn := rfl
theorem idle_f (X : VRec) : X.idle.f = X.f := rfl
theorem idle_sf (X : VRec) : X.idle.sf = X.sf := rfl
def VRec.less (X : VRec) : VRec := vMk X.q X.hs X.se X.c X.g X.st (X.r - 1) X.n X.sn X.f X.sf
theorem less_q (X : VRec) : X.less.q = X.q := rfl
theorem less_hs (X : VRec) : X.less.hs = X.hs := rfl
theorem less_se (X : VRec) : X.less.se = X.se := rfl
theorem less_c (X : VRec) : X.less.c = X.c := rfl
theorem less_g (X : VRec) : X.less.g = X.g := rfl
theorem less_st (X : VRec) : X.less.st = X.st := rfl
theorem less_r (X : VRec) : X.less.r = X.r - 1 := rfl
theorem less_n (X : VRec) : X.less.n = X.n := rfl
theorem less_sn (X : VRec) : X.less.sn = X.sn := rfl
theorem less_f (X : VRec) : X.less.f = X.f := rfl
theorem less_sf (X : VRec) : X.less.sf = X.sf := rfl
def RRec.over (X : RRec) : RRec := rMk X.q X.v X.hs X.cu X.kp X.gv X.en (true) X.n X.f
theorem over_q (X : RRec) : X.over.q = X.q := rfl
theorem over_v (X : RRec) : X.over.v = X.v := rfl
theorem over_hs (X : RRec) : X.over.hs = X.hs := rfl
theorem over_cu (X : RRec) : X.over.cu = X.cu := rfl
theorem over_kp (X : RRec) : X.over.kp = X.kp := rfl
theorem over_gv (X : RRec) : X.over.gv = X.gv := rfl
theorem over_en (X : RRec) : X.over.en = X.en := rfl
theorem over_ed (X : RRec) : X.over.ed = true := rfl
theorem over_n (X : RRec) : X.over.n = X.n := rfl
theorem over_f (X : RRec) : X.over.f = X.f := rfl
def VOk (cI cZ : ClassId) (L : List Nat) (F : Nat → va_E) (V : VRec) : Prop := isV L F V.q V.hs V.se V.c V.g V.st V.r ∧ isI cI L F V.hs V.n V.f ∧ isZ cZ L F V.se V.sn V.sf ∧ V.c ≤ V.n ∧ V.n ≤ 300 ∧ V.g ≤ 300 ∧ V.st ≤ 2 ∧ V.r ≤ 60 ∧ (∀ j, V.f j < 300) ∧ V.sn ≤ 40
def ROk (cI : ClassId) (L : List Nat) (F : Nat → va_E) (VT : Nat → VRec) (vc : Nat) (R : RRec) : Prop := isR L F R.q (VT R.v).q R.hs R.cu R.kp R.gv R.en R.ed ∧ isI cI L F R.hs R.n R.f ∧ R.v < vc ∧ R.n ≤ 300 ∧ R.gv ≤ R.n ∧ R.kp ≤ 1000 ∧ R.en ≤ 2000000000 ∧ (∀ j, R.f j < 300)
/-- the tables stand in the pool -/
def PQ (cI cZ : ClassId) (vc rc : Nat) (vq rq : Nat → Option Nat) (L : List Nat) (F : Nat → va_E) (VT : Nat → VRec) (RT : Nat → RRec) : Prop :=
  (∀ i, i < vc → vq i = some (VT i).q ∧ VOk cI cZ L F (VT i)) ∧ (∀ j, j < rc → rq j = some (RT j).q ∧ ROk cI L F VT vc (RT j)) ∧
  (∀ i i', i < vc → i' < vc → (VT i).q = (VT i').q → i = i') ∧ (∀ j j', j < rc → j' < rc → (RT j).q = (RT j').q → j = j')
def vE (V : VRec) : va_E := .inr (4, [.ref V.hs, .ref V.se, .int (nI V.c), .int (nI V.g), .int (nI V.st), .int (nI V.r)])
def rE (v : Nat) (R : RRec) : va_E := .inr (1, [.ref v, .ref R.hs, .int (bI R.cu), .int (nI R.kp), .int (nI R.gv), .int (nI R.en), .int (bI R.ed)])
/-- a view's counts change -/
theorem PQ.setV {cI cZ : ClassId} {vc rc : Nat} {vq rq : Nat → Option Nat} {L : List Nat} {F : Nat → va_E} {VT : Nat → VRec} {RT : Nat → RRec} (h : PQ cI cZ vc rc vq rq L F VT RT) {i : Nat} (hi : i < vc) {V : VRec} (eq : V.q = (VT i).q) (ehs : V.hs = (VT i).hs) (ese : V.se = (VT i).se) (en : V.n = (VT i).n) (esn : V.sn = (VT i).sn) (ef : V.f = (VT i).f) (esf : V.sf = (VT i).sf) (hc : V.c ≤ V.n) (hg : V.g ≤ 300) (hst : V.st ≤ 2) (hr : V.r ≤ 60) :
    PQ cI cZ vc rc vq rq L (va_up F (VT i).q (vE V)) (va_up VT i V) RT := by
  obtain ⟨h1, h2, h3, h4⟩ := h
  obtain ⟨hq, ⟨gV, gI, gZ, b1, b2, b3, b4, b5, b6, b7⟩⟩ := h1 i hi
  have hQ : ∀ k, (va_up VT i V k).q = (VT k).q := by
    intro k; by_cases e : k = i
    · subst e; rw [va_up_self]; exact eq
    · rw [va_up_ne _ _ e]
  refine ⟨?_, ?_, ?_, h4⟩
  · intro k hk
    by_cases e : k = i
    · subst e
      rw [va_up_self]
      refine ⟨by rw [eq]; exact hq, ⟨by rw [eq]; exact ⟨gV.1, va_up_self _ _ _⟩, ?_, ?_, hc, by omega, hg, hst, hr, by rw [ef]; exact b6, by omega⟩⟩
      · rw [ehs, en, ef]; exact isE.keep gI (ne_of_F gI.2 gV.2 (fun h => nomatch h))
      · rw [ese, esn, esf]; exact isE.keep gZ (ne_of_F gZ.2 gV.2 (fun h => nomatch h))
    · rw [va_up_ne _ _ e]
      obtain ⟨hq', ⟨gV', gI', gZ', c'⟩⟩ := h1 k hk
      exact ⟨hq', ⟨isE.keep gV' (fun z => e (h3 k i hk hi z)), isE.keep gI' (ne_of_F gI'.2 gV.2 (fun h => nomatch h)), isE.keep gZ' (ne_of_F gZ'.2 gV.2 (fun h => nomatch h)), c'⟩⟩
  · intro j hj
    obtain ⟨hq', ⟨gR, gI', c'⟩⟩ := h2 j hj
    exact ⟨hq', ⟨by rw [hQ]; exact isE.keep gR (ne_of_F gR.2 gV.2 (by simp)), isE.keep gI' (ne_of_F gI'.2 gV.2 (fun h => nomatch h)), c'⟩⟩
  · intro k k' hk hk' e
    rw [hQ, hQ] at e
    exact h3 k k' hk hk' e
/-- a reader's counts change -/
theorem PQ.setR {cI cZ : ClassId} {vc rc : Nat} {vq rq : Nat → Option Nat} {L : List Nat} {F : Nat → va_E} {VT : Nat → VRec} {RT : Nat → RRec} (h : PQ cI cZ vc rc vq rq L F VT RT) {j : Nat} (hj : j < rc) {R : RRec} (eq : R.q = (RT j).q) (ev : R.v = (RT j).v) (ehs : R.hs = (RT j).hs) (en : R.n = (RT j).n) (ef : R.f = (RT j).f) (hkp : R.kp ≤ 1000) (hgv : R.gv ≤ R.n) (hen : R.en ≤ 2000000000) :
    PQ cI cZ vc rc vq rq L (va_up F (RT j).q (rE (VT (RT j).v).q R)) VT (va_up RT j R) := by
  obtain ⟨h1, h2, h3, h4⟩ := h
  obtain ⟨hq, ⟨gR, gI, b1, b2, b3, b4, b5, b6⟩⟩ := h2 j hj
  have hQ : ∀ k, (va_up RT j R k).q = (RT k).q := by
    intro k; by_cases e : k = j
    · subst e; rw [va_up_self]; exact eq
    · rw [va_up_ne _ _ e]
  refine ⟨?_, ?_, h3, ?_⟩
  · intro k hk
    obtain ⟨hq', ⟨gV', gI', gZ', c'⟩⟩ := h1 k hk
    exact ⟨hq', ⟨isE.keep gV' (ne_of_F gV'.2 gR.2 (by simp)), isE.keep gI' (ne_of_F gI'.2 gR.2 (fun h => nomatch h)), isE.keep gZ' (ne_of_F gZ'.2 gR.2 (fun h => nomatch h)), c'⟩⟩
  · intro k hk
    by_cases e : k = j
    · subst e
      rw [va_up_self]
      refine ⟨by rw [eq]; exact hq, ⟨by rw [eq, ev]; exact ⟨gR.1, va_up_self _ _ _⟩, ?_, by omega, by omega, hgv, hkp, hen, by rw [ef]; exact b6⟩⟩
      rw [ehs, en, ef]; exact isE.keep gI (ne_of_F gI.2 gR.2 (fun h => nomatch h))
    · rw [va_up_ne _ _ e]
      obtain ⟨hq', ⟨gR', gI', c'⟩⟩ := h2 k hk
      exact ⟨hq', ⟨isE.keep gR' (fun z => e (h4 k j hk hj z)), isE.keep gI' (ne_of_F gI'.2 gR.2 (fun h => nomatch h)), c'⟩⟩
  · intro k k' hk hk' e
    rw [hQ, hQ] at e
    exact h4 k k' hk hk' e
/-- the pool grows -/
theorem PQ.push {cI cZ : ClassId} {vc rc : Nat} {vq rq : Nat → Option Nat} {L : List Nat} {F : Nat → va_E} {VT : Nat → VRec} {RT : Nat → RRec} (h : PQ cI cZ vc rc vq rq L F VT RT) {q : Nat} (hq : q ∉ L) (e : va_E) : PQ cI cZ vc rc vq rq (L ++ [q]) (va_up F q e) VT RT := by
  obtain ⟨h1, h2, h3, h4⟩ := h
  refine ⟨fun i hi => ?_, fun j hj => ?_, h3, h4⟩
  · obtain ⟨a, gV, gI, gZ, c⟩ := h1 i hi
    exact ⟨a, isE.push gV hq, isE.push gI hq, isE.push gZ hq, c⟩
  · obtain ⟨a, gR, gI, c⟩ := h2 j hj
    exact ⟨a, isE.push gR hq, isE.push gI hq, c⟩
/-- a view more -/
theorem PQ.addV {cI cZ : ClassId} {vc rc : Nat} {vq rq : Nat → Option Nat} {L : List Nat} {F : Nat → va_E} {VT : Nat → VRec} {RT : Nat → RRec} (h : PQ cI cZ vc rc vq rq L F VT RT) {V : VRec} (hV : VOk cI cZ L F V) (hne : ∀ i, i < vc → (VT i).q ≠ V.q) : PQ cI cZ (vc + 1) rc (va_up vq vc (some V.q)) rq L F (va_up VT vc V) RT := by
  obtain ⟨h1, h2, h3, h4⟩ := h
  refine ⟨fun i hi => ?_, fun j hj => ?_, fun i i' hi hi' e => ?_, h4⟩
  · by_cases e : i = vc
    · subst e; rw [va_up_self, va_up_self]; exact ⟨rfl, hV⟩
    · rw [va_up_ne _ _ e, va_up_ne _ _ e]; exact h1 i (by omega)
  · obtain ⟨a, gR, gI, hv, c⟩ := h2 j hj
    refine ⟨a, ?_, gI, by omega, c⟩
    rw [va_up_ne _ _ (show (RT j).v ≠ vc by omega)]; exact gR
  · by_cases e1 : i = vc
    · by_cases e2 : i' = vc
      · omega
      · rw [e1, va_up_self, va_up_ne _ _ e2] at e
        exact absurd e.symm (hne i' (by omega))
    · by_cases e2 : i' = vc
      · rw [e2, va_up_self, va_up_ne _ _ e1] at e
        exact absurd e (hne i (by omega))
      · rw [va_up_ne _ _ e1, va_up_ne _ _ e2] at e
        exact h3 i i' (by omega) (by omega) e
/-- a reader more -/
theorem PQ.addR {cI cZ : ClassId} {vc rc : Nat} {vq rq : Nat → Option Nat} {L : List Nat} {F : Nat → va_E} {VT : Nat → VRec} {RT : Nat → RRec} (h : PQ cI cZ vc rc vq rq L F VT RT) {R : RRec} (hR : ROk cI L F VT vc R) (hne : ∀ j, j < rc → (RT j).q ≠ R.q) : PQ cI cZ vc (rc + 1) vq (va_up rq rc (some R.q)) L F VT (va_up RT rc R) := by
  obtain ⟨h1, h2, h3, h4⟩ := h
  refine ⟨h1, fun j hj => ?_, h3, fun i i' hi hi' e => ?_⟩
  · by_cases e : j = rc
    · subst e; rw [va_up_self, va_up_self]; exact ⟨rfl, hR⟩
    · rw [va_up_ne _ _ e, va_up_ne _ _ e]; exact h2 j (by omega)
  · by_cases e1 : i = rc
    · by_cases e2 : i' = rc
      · omega
      · rw [e1, va_up_self, va_up_ne _ _ e2] at e
        exact absurd e.symm (hne i' (by omega))
    · by_cases e2 : i' = rc
      · rw [e2, va_up_self, va_up_ne _ _ e1] at e
        exact absurd e (hne i (by omega))
      · rw [va_up_ne _ _ e1, va_up_ne _ _ e2] at e
        exact h4 i i' (by omega) (by omega) e
theorem cnt_congr {P Q : Nat → Bool} {n : Nat} (h : ∀ i, i < n → P i = Q i) : cnt P n = cnt Q n := by
  induction n with
  | zero => rfl
  | succ n ih => simp only [cnt]; rw [ih (fun i hi => h i (by omega)), h n (by omega)]
theorem cnt_pos {P : Nat → Bool} {n i : Nat} (hi : i < n) (h : P i = true) : 0 < cnt P n := by
  induction n with
  | zero => omega
  | succ n ih =>
    simp only [cnt]
    by_cases e : i = n
    · rw [← e, h]; simp
    · have := ih (by omega); omega
/-- one that had it has it no more -/
theorem cnt_dec {P Q : Nat → Bool} {n i : Nat} (hi : i < n) (h1 : P i = true) (h2 : Q i = false) (h : ∀ k, k < n → k ≠ i → P k = Q k) : cnt P n = cnt Q n + 1 := by
  induction n with
  | zero => omega
  | succ n ih =>
    simp only [cnt]
    by_cases e : i = n
    · subst e; rw [h1, h2, cnt_congr (fun k hk => h k (by omega) (by omega))]; simp
    · have := ih (by omega) (fun k hk hne => h k (by omega) hne)
      rw [this, h n (by omega) (by omega)]; omega
theorem cnt_none {P : Nat → Bool} {n : Nat} (h : cnt P n = 0) : ∀ i, i < n → P i = false := by
  intro i hi
  cases hp : P i with
  | false => rfl
  | true => have := cnt_pos hi hp; omega
theorem usS_eq {sf : Nat → Bool} {srs : Nat → Nat} : ∀ n s, usS sf srs n s = if s < n ∧ sf s = true then srs s - 1 else srs s := by
  intro n
  induction n with
  | zero => intro s; simp [usS]
  | succ n ih =>
    intro s
    simp only [usS]
    split
    · rename_i h
      by_cases e : s = n
      · subst e; rw [va_up_self, ih]; simp [h]
      · rw [va_up_ne _ _ e, ih]
        by_cases e2 : s < n
        · simp [e2, show s < n + 1 by omega]
        · simp [e2, show ¬ s < n + 1 by omega]
    · rename_i h
      rw [ih]
      by_cases e : s = n
      · subst e; simp [h]
      · by_cases e2 : s < n
        · simp [e2, show s < n + 1 by omega]
        · simp [e2, show ¬ s < n + 1 by omega]
def pRd (RT : Nat → RRec) (i : Nat) : Nat → Bool := fun j => decide ((RT j).v = i) && !(RT j).ed
def pSe (VT : Nat → VRec) (s : Nat) : Nat → Bool := fun i => decide ((VT i).st ≠ 2) && (decide (s < (VT i).sn) && (VT i).sf s)
/-- the counts are what they count -/
def AI (vc rc sn : Nat) (srs : Nat → Nat) (VT : Nat → VRec) (RT : Nat → RRec) : Prop :=
  (∀ i, i < vc → (VT i).r = cnt (pRd RT i) rc) ∧ (∀ s, srs s = cnt (pSe VT s) vc) ∧ (∀ j, j < rc → (RT j).v < vc) ∧
  (∀ i, i < vc → (VT i).sn ≤ sn ∧ ((VT i).st = 1 → 0 < (VT i).r) ∧ ((VT i).st = 2 → (VT i).r = 0 ∧ (VT i).c = 0 ∧ (VT i).g = 0) ∧ ((VT i).st ≠ 2 → (VT i).c = (VT i).n) ∧ (VT i).st ≤ 2)
theorem AI.pos {vc rc sn : Nat} {srs : Nat → Nat} {VT : Nat → VRec} {RT : Nat → RRec} (h : AI vc rc sn srs VT RT) {i : Nat} (hi : i < vc) : (VT i).st ≠ 2 → ∀ s, s < (VT i).sn → (VT i).sf s = true → 0 < srs s := by
  intro h2 s hs hf
  rw [h.2.1 s]
  exact cnt_pos hi (by simp [pSe, h2, hs, hf])
theorem AI.run {vc rc sn : Nat} {srs : Nat → Nat} {VT : Nat → VRec} {RT : Nat → RRec} (h : AI vc rc sn srs VT RT) {j : Nat} (hj : j < rc) : (RT j).ed = false → 0 < (VT (RT j).v).r := by
  intro he
  rw [h.1 _ (h.2.2.1 j hj)]
  exact cnt_pos hj (by simp [pRd, he])
theorem AI.alive {vc rc sn : Nat} {srs : Nat → Nat} {VT : Nat → VRec} {RT : Nat → RRec} (h : AI vc rc sn srs VT RT) {j : Nat} (hj : j < rc) (he : (RT j).ed = false) : (VT (RT j).v).st ≠ 2 := by
  intro h2
  have := ((h.2.2.2 _ (h.2.2.1 j hj)).2.2.1 h2).1
  have := h.run hj he
  omega
/-- a view that may have ended -/
def eiV (V : VRec) : VRec := if V.st = 1 ∧ V.r = 0 then V.idle else V
def eiS (V : VRec) (srs : Nat → Nat) : Nat → Nat := if V.st = 1 ∧ V.r = 0 then usS V.sf srs V.sn else srs
theorem AI.idle {vc rc sn : Nat} {srs : Nat → Nat} {VT : Nat → VRec} {RT : Nat → RRec} {i : Nat} (hi : i < vc) (V : VRec)
    (h1 : ∀ k, k < vc → (va_up VT i V k).r = cnt (pRd RT k) rc) (h2 : ∀ s, srs s = cnt (pSe (va_up VT i V) s) vc) (h3 : ∀ j, j < rc → (RT j).v < vc)
    (h4 : ∀ k, k < vc → k ≠ i → (VT k).sn ≤ sn ∧ ((VT k).st = 1 → 0 < (VT k).r) ∧ ((VT k).st = 2 → (VT k).r = 0 ∧ (VT k).c = 0 ∧ (VT k).g = 0) ∧ ((VT k).st ≠ 2 → (VT k).c = (VT k).n) ∧ (VT k).st ≤ 2)
    (h5 : V.sn ≤ sn) (h6 : V.st < 2) (h7 : V.c = V.n) : AI vc rc sn (eiS V srs) (va_up VT i (eiV V)) RT := by
  by_cases hz : V.st = 1 ∧ V.r = 0
  · have e1 : eiV V = V.idle := if_pos hz
    have e2 : eiS V srs = usS V.sf srs V.sn := if_pos hz
    rw [e1, e2]
    refine ⟨?_, ?_, h3, ?_⟩
    · intro k hk
      have := h1 k hk
      by_cases e : k = i
      · subst e; rw [va_up_self] at this ⊢; exact this
      · rw [va_up_ne _ _ e] at this ⊢; exact this
    · intro s
      rw [usS_eq, h2 s]
      have hoth : ∀ k, k < vc → k ≠ i → pSe (va_up VT i V) s k = pSe (va_up VT i V.idle) s k := by
        intro k _ e; simp only [pSe, va_up_ne _ _ e]
      have hq : pSe (va_up VT i V.idle) s i = false := by simp [pSe, va_up_self, idle_st]
      by_cases e : s < V.sn ∧ V.sf s = true
      · rw [if_pos e]
        have hp : pSe (va_up VT i V) s i = true := by simp [pSe, va_up_self, e.1, e.2]; omega
        rw [cnt_dec hi hp hq hoth]; omega
      · rw [if_neg e]
        refine cnt_congr (fun k hk => ?_)
        by_cases ek : k = i
        · subst ek; rw [hq]; simp only [pSe, va_up_self]
          rcases Nat.lt_or_ge s V.sn with g | g
          · have : V.sf s = false := by cases hf : V.sf s with
              | false => rfl
              | true => exact absurd ⟨g, hf⟩ e
            simp [this]
          · simp [show ¬ s < V.sn by omega]
        · exact hoth k hk ek
    · intro k hk
      by_cases e : k = i
      · subst e; rw [va_up_self]; exact ⟨h5, fun h => absurd (show (2 : Nat) = 1 from h) (by omega), fun _ => ⟨hz.2, rfl, rfl⟩, fun h => absurd rfl h, Nat.le_refl _⟩
      · rw [va_up_ne _ _ e]; exact h4 k hk e
  · have e1 : eiV V = V := if_neg hz
    have e2 : eiS V srs = srs := if_neg hz
    rw [e1, e2]
    refine ⟨h1, h2, h3, ?_⟩
    intro k hk
    by_cases e : k = i
    · subst e; rw [va_up_self]; exact ⟨h5, fun h => by omega, fun h => by omega, fun _ => h7, by omega⟩
    · rw [va_up_ne _ _ e]; exact h4 k hk e
/-- a reader ends -/
def erT (RT : Nat → RRec) (j : Nat) : Nat → RRec := va_up RT j (RT j).over
def erW (VT : Nat → VRec) (RT : Nat → RRec) (j : Nat) : VRec := (VT (RT j).v).less
def erV (VT : Nat → VRec) (RT : Nat → RRec) (j : Nat) : Nat → VRec := va_up VT (RT j).v (eiV (erW VT RT j))
def erS (VT : Nat → VRec) (RT : Nat → RRec) (srs : Nat → Nat) (j : Nat) : Nat → Nat := eiS (erW VT RT j) srs
theorem AI.er {vc rc sn : Nat} {srs : Nat → Nat} {VT : Nat → VRec} {RT : Nat → RRec} (h : AI vc rc sn srs VT RT) {j : Nat} (hj : j < rc) (he : (RT j).ed = false) : AI vc rc sn (erS VT RT srs j) (erV VT RT j) (erT RT j) := by
  have hv := h.2.2.1 j hj
  have hal := h.alive hj he
  have hr := h.run hj he
  obtain ⟨h1, h2, h3, h4⟩ := id h
  refine AI.idle hv (erW VT RT j) ?_ ?_ ?_ (fun k hk _ => h4 k hk) (h4 _ hv).1 ?_ ((h4 _ hv).2.2.2.1 hal)
  · intro k hk
    by_cases e : k = (RT j).v
    · subst e
      rw [va_up_self]
      have hp : pRd RT (RT j).v j = true := by simp [pRd, he]
      have hq : pRd (erT RT j) (RT j).v j = false := by simp [pRd, erT, va_up_self, over_ed]
      have := cnt_dec hj hp hq (fun k _ e => by simp only [pRd, erT, va_up_ne _ _ e])
      show (VT (RT j).v).r - 1 = _
      rw [h1 _ hv]; omega
    · rw [va_up_ne _ _ e, h1 k hk]
      refine cnt_congr (fun x _ => ?_)
      by_cases ex : x = j
      · subst ex; simp only [pRd, erT, va_up_self, over_v, over_ed]; simp [show ¬ (RT x).v = k by omega]
      · simp only [pRd, erT, va_up_ne _ _ ex]
  · intro s
    rw [h2 s]
    refine cnt_congr (fun k _ => ?_)
    by_cases e : k = (RT j).v
    · subst e; simp only [pSe, va_up_self, erW, less_st, less_sn, less_sf]
    · simp only [pSe, va_up_ne _ _ e]
  · intro k hk
    by_cases ex : k = j
    · subst ex; simp only [erT, va_up_self, over_v]; exact hv
    · simp only [erT]; rw [va_up_ne _ _ ex]; exact h3 k hk
  · have := (h4 _ hv).2.2.2.2
    show (VT (RT j).v).st < 2
    omega
/-- the pool after a reader's end -/
theorem PQ.er {cI cZ : ClassId} {vc rc : Nat} {vq rq : Nat → Option Nat} {L : List Nat} {F : Nat → va_E} {VT : Nat → VRec} {RT : Nat → RRec} (h : PQ cI cZ vc rc vq rq L F VT RT) {j : Nat} (hj : j < rc) :
    PQ cI cZ vc rc vq rq L (va_up (va_up F (RT j).q (rE (VT (RT j).v).q (RT j).over)) (VT (RT j).v).q (vE (eiV (erW VT RT j)))) (erV VT RT j) (erT RT j) := by
  obtain ⟨_, _, _, hv, b2, b3, b4, b5, _⟩ := h.2.1 j hj
  obtain ⟨_, _, _, _, c1, c2, c3, c4, c5, _⟩ := h.1 _ hv
  have h1 := h.setR hj (R := (RT j).over) rfl rfl rfl rfl rfl b4 b3 b5
  refine h1.setV hv (V := eiV (erW VT RT j)) ?_ ?_ ?_ ?_ ?_ ?_ ?_ ?_ ?_ ?_ ?_ <;> unfold eiV <;> split <;> first | rfl | (simp only [erW, less_c, less_g, less_st, less_r, less_n, idle_c, idle_g, idle_st, idle_r, idle_n]; omega)
def PR (cI cZ : ClassId) (C : CT) (VT : Nat → VRec) (RT : Nat → RRec) : Prop := PQ cI cZ (k_vc C) (k_rc C) (k_vq C) (k_rq C) (k_L C) (k_F C) VT RT
def AIc (C : CT) (VT : Nat → VRec) (RT : Nat → RRec) : Prop := AI (k_vc C) (k_rc C) (k_sn C) (k_srs C) VT RT
/-- who sees, and the pool, change -/
def sfM (C : CT) (S : Nat → Nat) (F : Nat → va_E) : CT := (mkC (k_ra C) (k_rb C) (k_vc C) (k_rc C) (k_pc C) (k_nw C) (k_n C) (k_fn C) (k_sn C) (k_kc C) (k_grp C) (k_key C) (k_srt C) (k_wt C) (k_home C) (k_drp C) (k_met C) (k_kin C) (k_alv C) (S) (k_row C) (k_sp C) (k_kis C) (k_pg C) (k_vq C) (k_rq C) (k_L C) (F))
theorem ok_sfM {C : CT} (hM : kOk C) {S : Nat → Nat} {F : Nat → va_E} (h : ∀ j, S j < 2000000000) : kOk (sfM C S F) := by
  obtain ⟨h1, h2, h3, h4, h5, h6, h7, h8, h9, h10, h11, h12, h13, h14, h15, h16⟩ := id hM
  exact ⟨h1, h2, h3, h4, h5, h6, h7, h8, h9, h10, h11, h, h13, h14, h15, h16⟩
theorem sfM_sfM {C : CT} {S S' : Nat → Nat} {F F' : Nat → va_E} : sfM (sfM C S F) S' F' = sfM C S' F' := rfl
/-- the class's state as a reader of the tables ends -/
def erU (C : CT) (VT : Nat → VRec) (RT : Nat → RRec) (j : Nat) : CT := erM C (RT j).q (VT (RT j).v).q (RT j).hs (RT j).cu (RT j).kp (RT j).gv (RT j).en (RT j).ed (VT (RT j).v).hs (VT (RT j).v).se (VT (RT j).v).c (VT (RT j).v).g (VT (RT j).v).st (VT (RT j).v).r (VT (RT j).v).sn (VT (RT j).v).sf
def erF (F : Nat → va_E) (VT : Nat → VRec) (RT : Nat → RRec) (j : Nat) : Nat → va_E := va_up (va_up F (RT j).q (rE (VT (RT j).v).q (RT j).over)) (VT (RT j).v).q (vE (eiV (erW VT RT j)))
theorem erU_sf {C : CT} {VT : Nat → VRec} {RT : Nat → RRec} {j : Nat} (he : (RT j).ed = false) : erU C VT RT j = sfM C (erS VT RT (k_srs C) j) (erF (k_F C) VT RT j) := by
  unfold erU erM
  rw [he, if_neg (by decide)]
  unfold eiM erS eiS erF eiV
  by_cases hz : (VT (RT j).v).st = 1 ∧ (VT (RT j).v).r - 1 = 0
  · rw [if_pos hz, if_pos (show (erW VT RT j).st = 1 ∧ (erW VT RT j).r = 0 from hz), if_pos (show (erW VT RT j).st = 1 ∧ (erW VT RT j).r = 0 from hz)]
    unfold erM0 sfM
    simp only [mkC_ra, mkC_rb, mkC_vc, mkC_rc, mkC_pc, mkC_nw, mkC_n, mkC_fn, mkC_sn, mkC_kc, mkC_grp, mkC_key, mkC_srt, mkC_wt, mkC_home, mkC_drp, mkC_met, mkC_kin, mkC_alv, mkC_srs, mkC_row, mkC_sp, mkC_kis, mkC_pg, mkC_vq, mkC_rq, mkC_L, mkC_F]
    rw [bx_uu]
    rfl
  · rw [if_neg hz, if_neg (show ¬ ((erW VT RT j).st = 1 ∧ (erW VT RT j).r = 0) from hz), if_neg (show ¬ ((erW VT RT j).st = 1 ∧ (erW VT RT j).r = 0) from hz)]
    rfl
theorem PR.sf {cI cZ : ClassId} {C : CT} {S : Nat → Nat} {F : Nat → va_E} {VT : Nat → VRec} {RT : Nat → RRec} (h : PQ cI cZ (k_vc C) (k_rc C) (k_vq C) (k_rq C) (k_L C) F VT RT) : PR cI cZ (sfM C S F) VT RT := h
theorem AIc.sf {C : CT} {S : Nat → Nat} {F : Nat → va_E} {VT : Nat → VRec} {RT : Nat → RRec} (h : AI (k_vc C) (k_rc C) (k_sn C) S VT RT) : AIc (sfM C S F) VT RT := h
theorem AIc.srs {C : CT} {VT : Nat → VRec} {RT : Nat → RRec} (h : AIc C VT RT) (hv : k_vc C ≤ 30) (s : Nat) : k_srs C s ≤ 30 := by
  rw [h.2.1 s]; exact Nat.le_trans (cnt_le _ _) hv
/-- a cursor whose time is over -/
def tkC (nw : Nat) (RT : Nat → RRec) (j : Nat) : Bool := (RT j).cu && (!(RT j).ed && decide ((RT j).en < nw))
def tkA (nw : Nat) (VT : Nat → VRec) (RT : Nat → RRec) (srs : Nat → Nat) : Nat → (Nat → VRec) × (Nat → RRec) × (Nat → Nat)
  | 0 => (VT, RT, srs)
  | i + 1 => if tkC nw (tkA nw VT RT srs i).2.1 i then (erV (tkA nw VT RT srs i).1 (tkA nw VT RT srs i).2.1 i, erT (tkA nw VT RT srs i).2.1 i, erS (tkA nw VT RT srs i).1 (tkA nw VT RT srs i).2.1 (tkA nw VT RT srs i).2.2 i) else tkA nw VT RT srs i
theorem tkA_R (nw : Nat) (VT : Nat → VRec) (RT : Nat → RRec) (srs : Nat → Nat) : ∀ i j, (tkA nw VT RT srs i).2.1 j = if j < i ∧ tkC nw RT j = true then (RT j).over else RT j := by
  intro i
  induction i with
  | zero => intro j; simp [tkA]
  | succ i ih =>
    intro j
    have hi : tkC nw (tkA nw VT RT srs i).2.1 i = tkC nw RT i := by simp only [tkC, ih i]; simp
    simp only [tkA]
    by_cases hc : tkC nw RT i = true
    · rw [if_pos (hi.trans hc)]
      by_cases e : j = i
      · subst e; simp only [erT, va_up_self, ih]; simp [hc]
      · simp only [erT]; rw [va_up_ne _ _ e, ih]
        by_cases e2 : j < i
        · simp [e2, show j < i + 1 by omega]
        · simp [e2, show ¬ j < i + 1 by omega]
    · rw [if_neg (fun h => hc (hi.symm.trans h)), ih]
      by_cases e : j = i
      · subst e; simp [hc]
      · by_cases e2 : j < i
        · simp [e2, show j < i + 1 by omega]
        · simp [e2, show ¬ j < i + 1 by omega]
/-- where a tick stands after the first i readers -/
def TI (cI cZ : ClassId) (C0 : CT) (VT : Nat → VRec) (RT : Nat → RRec) (i k : Nat) (C9 : CT) (VT9 : Nat → VRec) (RT9 : Nat → RRec) : Prop :=
  (∃ F, C9 = sfM C0 (tkA (k_nw C0) VT RT (k_srs C0) i).2.2 F) ∧ VT9 = (tkA (k_nw C0) VT RT (k_srs C0) i).1 ∧ RT9 = (tkA (k_nw C0) VT RT (k_srs C0) i).2.1 ∧ PR cI cZ C9 VT9 RT9 ∧ AIc C9 VT9 RT9 ∧ k = cnt (tkC (k_nw C0) RT) i
theorem TI.zero {cI cZ : ClassId} {C0 : CT} {VT : Nat → VRec} {RT : Nat → RRec} (h : PR cI cZ C0 VT RT) (g : AIc C0 VT RT) : TI cI cZ C0 VT RT 0 0 C0 VT RT := ⟨⟨k_F C0, rfl⟩, rfl, rfl, h, g, rfl⟩
theorem TI.cur {cI cZ : ClassId} {C0 : CT} {VT : Nat → VRec} {RT : Nat → RRec} {i k : Nat} {C9 : CT} {VT9 : Nat → VRec} {RT9 : Nat → RRec} (h : TI cI cZ C0 VT RT i k C9 VT9 RT9) : tkC (k_nw C0) RT9 i = tkC (k_nw C0) RT i := by
  rw [h.2.2.1]; simp only [tkC, tkA_R]; simp
theorem TI.fl {cI cZ : ClassId} {C0 : CT} {VT : Nat → VRec} {RT : Nat → RRec} {i k : Nat} {C9 : CT} {VT9 : Nat → VRec} {RT9 : Nat → RRec} (h : TI cI cZ C0 VT RT i k C9 VT9 RT9) (hc : tkC (k_nw C0) RT9 i = false) : TI cI cZ C0 VT RT (i + 1) k C9 VT9 RT9 := by
  have hu := h.cur
  obtain ⟨⟨F, h1⟩, h2, h3, h4, h5, h6⟩ := h
  have hs : tkA (k_nw C0) VT RT (k_srs C0) (i + 1) = tkA (k_nw C0) VT RT (k_srs C0) i := by
    show (if _ then _ else _) = _
    rw [if_neg (by rw [← h3, hc]; decide)]
  refine ⟨⟨F, by rw [hs]; exact h1⟩, by rw [hs]; exact h2, by rw [hs]; exact h3, h4, h5, cnt_f h6 (hu.symm.trans hc)⟩
theorem TI.tr {cI cZ : ClassId} {C0 : CT} {VT : Nat → VRec} {RT : Nat → RRec} {i k : Nat} {C9 : CT} {VT9 : Nat → VRec} {RT9 : Nat → RRec} (h : TI cI cZ C0 VT RT i k C9 VT9 RT9) (hi : i < k_rc C0) (hc : tkC (k_nw C0) RT9 i = true) : TI cI cZ C0 VT RT (i + 1) (k + 1) (erU C9 VT9 RT9 i) (erV VT9 RT9 i) (erT RT9 i) := by
  have hu := h.cur
  obtain ⟨⟨F, h1⟩, h2, h3, h4, h5, h6⟩ := h
  have he : (RT9 i).ed = false := by
    have := hc; simp only [tkC, Bool.and_eq_true] at this
    have := this.2.1; simpa using this
  have hs : tkA (k_nw C0) VT RT (k_srs C0) (i + 1) = (erV VT9 RT9 i, erT RT9 i, erS VT9 RT9 (k_srs C9) i) := by
    show (if _ then _ else _) = _
    rw [if_pos (by rw [← h3, hc]), ← h2, ← h3, h1]; rfl
  have hi9 : i < k_rc C9 := by rw [h1]; exact hi
  refine ⟨⟨erF (k_F C9) VT9 RT9 i, by rw [hs, erU_sf he, h1]; rfl⟩, by rw [hs], by rw [hs], ?_, ?_, cnt_t h6 (hu.symm.trans hc)⟩
  · rw [erU_sf he]; exact PR.sf (PQ.er h4 hi9)
  · rw [erU_sf he]; exact AIc.sf (AI.er h5 hi9 he)
def nwM (C : CT) (n : Nat) : CT := (mkC (k_ra C) (k_rb C) (k_vc C) (k_rc C) (k_pc C) (k_nw C + n) (k_n C) (k_fn C) (k_sn C) (k_kc C) (k_grp C) (k_key C) (k_srt C) (k_wt C) (k_home C) (k_drp C) (k_met C) (k_kin C) (k_alv C) (k_srs C) (k_row C) (k_sp C) (k_kis C) (k_pg C) (k_vq C) (k_rq C) (k_L C) (k_F C))
def stGo (VT : Nat → VRec) (i : Nat) : Bool := decide ((VT i).st ≠ 2)
def rdGo (RT : Nat → RRec) (j : Nat) : Bool := !(RT j).ed
theorem TI.ok {cI cZ : ClassId} {C0 : CT} {VT : Nat → VRec} {RT : Nat → RRec} {i k : Nat} {C9 : CT} {VT9 : Nat → VRec} {RT9 : Nat → RRec} (h : TI cI cZ C0 VT RT i k C9 VT9 RT9) (hM : kOk C0) : kOk C9 := by
  obtain ⟨⟨F, h1⟩, h2, h3, h4, h5, h6⟩ := h
  have hs := fun s => h5.srs (by rw [h1]; exact hM.2.2.2.1) s
  rw [h1]
  refine ok_sfM hM (fun j => ?_)
  have := hs j
  rw [h1] at this
  exact Nat.lt_of_le_of_lt this (by omega)
theorem TI.rc {cI cZ : ClassId} {C0 : CT} {VT : Nat → VRec} {RT : Nat → RRec} {i k : Nat} {C9 : CT} {VT9 : Nat → VRec} {RT9 : Nat → RRec} (h : TI cI cZ C0 VT RT i k C9 VT9 RT9) : k_rc C9 = k_rc C0 := by
  obtain ⟨⟨F, h1⟩, _⟩ := h; rw [h1]; rfl
theorem TI.nw {cI cZ : ClassId} {C0 : CT} {VT : Nat → VRec} {RT : Nat → RRec} {i k : Nat} {C9 : CT} {VT9 : Nat → VRec} {RT9 : Nat → RRec} (h : TI cI cZ C0 VT RT i k C9 VT9 RT9) : k_nw C9 = k_nw C0 := by
  obtain ⟨⟨F, h1⟩, _⟩ := h; rw [h1]; rfl
def tldC (C : CT) (VT : Nat → VRec) (RT : Nat → RRec) (w : Nat) : Nat := if w = 0 then k_n C else if w = 1 then newF (k_fn C) (k_drp C) (k_n C) else if w = 2 then k_sn C else if w = 3 then cnt (pSs (k_alv C) (k_srs C) 0) (k_sn C) else if w = 4 then cnt (pSs (k_alv C) (k_srs C) 1) (k_sn C) else if w = 5 then cnt (pSs (k_alv C) (k_srs C) 2) (k_sn C) else if w = 6 then k_vc C else if w = 7 then cnt (stGo VT) (k_vc C) else if w = 8 then k_rc C else if w = 9 then cnt (rdGo RT) (k_rc C) else if w = 10 then k_nw C else k_pc C
theorem ok_nwM {C : CT} (hM : kOk C) {n : Nat} (h : k_nw C + n ≤ 1000000000) : kOk (nwM C n) := by
  obtain ⟨h1, h2, h3, h4, h5, h6, h7, h8, h9, h10, h11, h12, h13, h14, h15, h16⟩ := id hM
  exact ⟨h1, h2, h3, h4, h5, h6, h, h8, h9, h10, h11, h12, h13, h14, h15, h16⟩
