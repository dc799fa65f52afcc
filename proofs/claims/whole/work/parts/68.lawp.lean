/-! the law's wrappers: what each answers -/
theorem met_ofWH {l : Launch} {y : MethodName} {ws ws' : List Cond} {rm : Room} {Pc : Array Value → State → Prop} {Qc : Array Value → State → Outcome → State → Prop} {mc ms : Nat} {free : Addr → Prop} {cc : ByteArray} {maxL : Nat} {ret : Option FieldType} {hh : List (Nat × Nat × Nat × Nat)}
    (hy : plainName y.cls = true) (hw : ws = Cond.codeWith y cc maxL ret hh :: ws')
    (body : ∀ p e s m args below meth c s₁, BodyLoose p l y (headSpec ws rm) cc maxL ret e s m args below meth c s₁ → c.maxLocals = maxL → Pc args s →
      W p l e (headSpec ws rm).room s m args below meth c s.heap [] 0 0 (MQ below Qc args s mc ms free) (entryFrame m args maxL)) : Met l y ws rm Pc Qc mc ms free := by
  refine MetFree.of_bodyS (code := cc) (maxLocals := maxL) (ret := ret) hy ?_ ?_
  · intro args s m h hn
    obtain ⟨m9, meth, c, hn9, h1, h2, h3, h4, -, h5, h6, -⟩ := Cond.codeWith_spec (atoms_spec (ws := ws) h _ (by rw [hw]; exact List.mem_cons_self))
    cases hn.symm.trans hn9
    exact ⟨meth, c, h1, h2, h3, h4, h5, h6⟩
  · intro p e s m args below meth c s₁ B hml hP _
    have hh0 : s₁.heap = s.heap := by rw [B.state]; rfl
    obtain ⟨t, a1, o, b1, b2, b3⟩ := body p e s m args below meth c s₁ B hml hP s₁ hh0 (Stand.of_body B)
    exact ⟨t, o, a1, b1, b2, ⟨b3.1, b3.2⟩⟩
/-- the law's own row of one long -/
def oW (cJ : ClassId) (o : Nat) (ov : Nat → Int64) : va_W := [(o, .inl (cJ, 1, .inr (.inl ov)))]
def bdX (x : Int32) (n : Nat) : Prop := x.toInt < 0 ∨ ((n : Nat) : Int) ≤ x.toInt
theorem nI_ex {x : Int32} {n : Nat} (h : ¬ bdX x n) : ∃ i, i < n ∧ x = nI i := by
  have h0 : 0 ≤ x.toInt := Int.not_lt.mp (fun h9 => h (Or.inl h9))
  have h1 : x.toInt < ((n : Nat) : Int) := Int.not_le.mp (fun h9 => h (Or.inr h9))
  have := ix_c x h0
  exact ⟨ix x, by omega, ix_n h0⟩
theorem nI_ex1 {x : Int32} {a n : Nat} (h : ¬ (x.toInt < ((a : Nat) : Int) ∨ ((n : Nat) : Int) < x.toInt)) : ∃ i, a ≤ i ∧ i ≤ n ∧ x = nI i := by
  have h0 : ((a : Nat) : Int) ≤ x.toInt := Int.not_lt.mp (fun h9 => h (Or.inl h9))
  have h1 : x.toInt ≤ ((n : Nat) : Int) := Int.not_lt.mp (fun h9 => h (Or.inr h9))
  have := ix_c x (by omega)
  exact ⟨ix x, by omega, by omega, ix_n (by omega)⟩
theorem nI_ex2 {x y : Int32} (h : ¬ (x.toInt < 1 ∨ 8 < x.toInt ∨ y.toInt < 0 ∨ x.toInt ≤ y.toInt)) : ∃ m k, 1 ≤ m ∧ m ≤ 8 ∧ k < m ∧ x = nI m ∧ y = nI k := by
  have h1 : ¬ x.toInt < 1 := fun h9 => h (Or.inl h9)
  have h2 : ¬ 8 < x.toInt := fun h9 => h (Or.inr (Or.inl h9))
  have h3 : ¬ y.toInt < 0 := fun h9 => h (Or.inr (Or.inr (Or.inl h9)))
  have h4 : ¬ x.toInt ≤ y.toInt := fun h9 => h (Or.inr (Or.inr (Or.inr h9)))
  have e1 := ix_c x (by omega)
  have e2 := ix_c y (by omega)
  exact ⟨ix x, ix y, by omega, by omega, by omega, ix_n (by omega), ix_n (by omega)⟩
/-- what always holds of the class -/
def CI (cI cZ : ClassId) (C : CT) (VT : Nat → VRec) (RT : Nat → RRec) : Prop := kOk C ∧ PR cI cZ C VT RT ∧ AIc C VT RT ∧ (∀ i, i < k_n C → k_home C i ≠ -1 → k_drp C i = false → 0 < k_alv C (k_home C i).toNat) ∧ ∀ i, i < k_vc C → ∀ (kd : Nat) (sd : Int64) (k9 : Nat), kd < 3 → k9 < (VT i).g → k9 < (lgR (rkM C (VT i).f (VT i).c kd sd)).1 ∧ 0 < k_kc (ngM (rkM C (VT i).f (VT i).c kd sd) k9)
theorem CI.run {cI cZ : ClassId} {C : CT} {VT : Nat → VRec} {RT : Nat → RRec} (h : CI cI cZ C VT RT) {i : Nat} (hi : i < k_vc C) : (VT i).r ≤ k_rc C := by
  rw [h.2.2.1.1 i hi]; exact cnt_le _ _
def dvX (r : Int32) : Int64 := if r.toInt = 0 then 0 else 1
theorem m1_of {k : Int32} (h : k.toInt = -1) : k = zI (-1) := Int32.toInt_inj.mp (h.trans (by decide))
theorem tk_ex {x : Int32} {nw : Nat} (h : ¬ (x.toInt < 0 ∨ 10000 < x.toInt ∨ 1000000000 - x.toInt < nw)) : ∃ n, n ≤ 10000 ∧ nw + n ≤ 1000000000 ∧ x = nI n := by
  have h1 : ¬ x.toInt < 0 := fun h9 => h (Or.inl h9)
  have h2 : ¬ 10000 < x.toInt := fun h9 => h (Or.inr (Or.inl h9))
  have h3 : ¬ 1000000000 - x.toInt < nw := fun h9 => h (Or.inr (Or.inr h9))
  have := ix_c x (by omega)
  exact ⟨ix x, by omega, by omega, ix_n (by omega)⟩
