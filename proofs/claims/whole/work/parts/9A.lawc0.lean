/-! the law's own body -/
/-- two ints of the script, one long -/
def lgJ (x y : Int32) : Int64 := (x.toInt64 <<< ((nI (32)).toInt64 &&& 63)) ||| (y.toInt64 &&& 4294967295)
theorem fr_as {D : va_G} {cl : List vw_C} {X Y w : va_W} {H : Heap} (h : va_P D cl (X ++ (Y ++ w)) H) : va_P D cl ((X ++ Y) ++ w) H := by rw [List.append_assoc]; exact h
theorem fr_sa {D : va_G} {cl : List vw_C} {X Y w : va_W} {H : Heap} (h : va_P D cl ((X ++ Y) ++ w) H) : va_P D cl (X ++ (Y ++ w)) H := by rw [← List.append_assoc]; exact h
theorem fd_as {A : Nat → Prop} {X Y w : va_W} (h : va_D A (X ++ (Y ++ w))) : va_D A ((X ++ Y) ++ w) := by rw [List.append_assoc]; exact h
theorem fd_sa {A : Nat → Prop} {X Y w : va_W} (h : va_D A ((X ++ Y) ++ w)) : va_D A (X ++ (Y ++ w)) := by rw [← List.append_assoc]; exact h
/-- the script's ints -/
theorem ws_sld {p : Program} {l : Launch} {e : Env} {R : Room} {s : State} {m : MethodId} {args : Array Value} {below : List Frame} {meth : Method} {c : Code} {H H0 : Heap} {locs : List Loc} {cells slots : Nat} {Q : State → Prop} {cc : ByteArray} {pc : Nat} {ls : Array Slot} {rest : List Value} {A : Nat → Prop} (hexec : p.tables.exec = Jvm.exec) (hb : c.code = cc) {b L : Nat} {xs : Nat → Int32} (hX : va_X b L xs s H0) (hbl : b < H0.size) (hbA : ¬ A b) (hS : va_S A H0 H locs) {i : Nat} (hi : i < L) (hL : L ≤ 4096) (hdg : decode cc pc = .ok (.iaload, 1))
    (kk : W p l e R s m args below meth c H locs cells slots Q (F0 m (pc + 1) ls (.int (xs i) :: rest))) : W p l e R s m args below meth c H locs cells slots Q (F0 m pc ls (.int (nI i) :: .ref b :: rest)) :=
  va_sld hexec hb hX hbl hbA hS (vi_in hi (by omega)) hdg (by rw [nI_cl (by omega)]; exact kk)
/-- what the law stands on -/
def LF (p : Program) (l : Launch) (s : State) (m : MethodId) (c : Code) (D : va_G) (cI cJ cZ cV cR : ClassId) (b L : Nat) (xs : Nat → Int32) (A : Nat → Prop) : Prop :=
  l.stackTraces = false ∧ p.tables.exec = Jvm.exec ∧ c.code = cL_law ∧ c.maxLocals = 8 ∧ s.vm.findClass RL = some m.cls ∧ (∀ w ∈ wsL_law, w.before #[Value.ref b] s = true) ∧ va_X b L xs s s.heap ∧ b < s.heap.size ∧ ¬ A b ∧ L ≤ 4096 ∧ (∀ q, s.heap.size ≤ q → A q) ∧ va_K D vwCl (tyK cI cJ cZ cV cR) s ∧ YE A s s.heap ∧ (Cond.constantLong RL 92 4294967295).before #[Value.ref b] s = true
theorem tb_dropT (M : MT) (x : Int32) : dropT M x < 4 := by unfold dropT; split <;> omega
theorem tb_objT (M : MT) (x y : Int32) : objT M x y < 4 := by unfold objT; split <;> omega
theorem tb_segT (M : MT) (x y : Int32) : segT M x y < 4 := by unfold segT; split <;> omega
theorem tb_letGoT (M : MT) (x : Int32) : letGoT M x < 4 := by unfold letGoT; split <;> first | omega | (split <;> omega)
theorem tb_vT (M : MT) (x : Int32) : vT M x < 4 := by unfold vT; split <;> omega
theorem tb_pageT (M : MT) (x : Int32) : pageT M x < 4 := by unfold pageT; split <;> omega
theorem tb_toldT (x : Int32) : toldT x < 4 := by unfold toldT; split <;> omega
theorem tb_lfT (M : MT) (x : Int32) : lfT M x < 4 := by unfold lfT; split <;> omega
theorem tb_tickT (M : MT) (x : Int32) : tickT M x < 4 := by unfold tickT; split <;> omega
theorem tb_hitT (M : MT) (x y z : Int32) : hitT M x y z < 4 := by unfold hitT; split <;> first | omega | (split <;> omega)
theorem tb_placeT (M : MT) (x y z : Int32) : placeT M x y z < 4 := by unfold placeT; split <;> first | omega | (split <;> omega)
theorem tb_againstM (M : MT) (x y z : Int32) : againstM M x y z < 4 := by unfold againstM; split <;> first | omega | (split <;> omega)
theorem tb_bestT (M : MT) (x y : Int32) (sd : Int64) (z w : Int32) : bestT M x y sd z w < 4 := by unfold bestT; split <;> first | exact tb_againstM _ _ _ _ | (split <;> omega)
theorem tb_takeT (M : MT) (x w : Int32) : takeT M x w < 4 := by unfold takeT; split <;> first | omega | (split <;> first | omega | (split <;> omega))
theorem tb_nxT (M : MT) (x : Int32) : nxT M x < 4 := by unfold nxT; split <;> first | omega | (split <;> first | omega | (split <;> omega))
theorem tb_curT (M : MT) (x y : Int32) (sd : Int64) (sl sc kp : Int32) : curT M x y sd sl sc kp < 4 := by unfold curT; split <;> first | omega | (split <;> first | omega | (split <;> omega))
theorem tb_itT (M : MT) (x y : Int32) (sd : Int64) (z : Int32) : itT M x y sd z < 4 := by unfold itT; split <;> first | omega | (split <;> first | omega | (split <;> omega))
