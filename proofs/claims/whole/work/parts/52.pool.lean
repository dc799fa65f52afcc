/-! things in any number: views, readers and their rows, in a pool behind the fixed cells -/
section Pool
variable {p : Program} {l : Launch} {e : Env} {R : Room} {s : State} {m : MethodId} {args : Array Value} {below : List Frame} {meth : Method} {c : Code} {H : Heap} {locs : List Loc} {cells slots : Nat} {Q : State → Prop}
variable {cc : ByteArray} {pc : Nat} {ls : Array Slot} {rest : List Value} {D : va_G} {cl : List vw_C} {A : Nat → Prop} {q : Nat} {tys : List (ClassId × FieldType)} {H0 : Heap}
variable {X : va_W} {L : List Nat} {F : Nat → va_E}
theorem wp_get (hexec : p.tables.exec = Jvm.exec) (hb : c.code = cc) {own ref C : String} {T : u_T} {N ci index : Nat} {Ts : List Cond} (hts : ∀ w ∈ Ts, w.before args s = true) (hin : ∀ w ∈ u_ws C T N, w ∈ Ts) (hown : s.vm.findClass own = some m.cls) (hK : va_K D cl tys s) (hP : va_P D cl (X ++ va_pl L F) H) (hq : q ∈ L) {fs : List Value} (hF : F q = .inr (ci, fs)) (hc : cl[ci]? = some (C, T, N)) (k : Nat) (hk : k < N) (hlink : (Cond.fieldLink own index ref (T k).2.1 (T k).2.2.1).before args s = true) (hsame : ∀ x, s.fieldFound? (T k).1 (T k).2.1 (T k).2.2.1 = some x → s.fieldFound? ref (T k).2.1 (T k).2.2.1 = some x) {v : Value} (hv : fs[k]? = some v) (hdg : decode cc pc = .ok (.getfield index, 3))
    (kk : W p l e R s m args below meth c H locs cells slots Q (F0 m (pc + 3) ls (v :: rest))) : W p l e R s m args below meth c H locs cells slots Q (F0 m pc ls (.ref q :: rest)) := by
  obtain ⟨k9, h9⟩ := va_pl_get (X := X) (f := F) hq
  rw [hF] at h9
  exact va_get hexec hb hts hin hown hK hP k9 h9 hc k hk hlink hsame hv hdg kk
theorem wp_put (hexec : p.tables.exec = Jvm.exec) (hb : c.code = cc) {own ref C : String} {T : u_T} {N ci index : Nat} {Ts : List Cond} (hts : ∀ w ∈ Ts, w.before args s = true) (hin : ∀ w ∈ u_ws C T N, w ∈ Ts) (ty0 : Nat → FieldType) (hty : ∀ k, k < N → parseFieldDescriptor (T k).2.2.1 = some (ty0 k)) (hnm : ∀ a, a < N → ∀ b, b < N → a ≠ b → (T a).2.1 ≠ (T b).2.1) (hown : s.vm.findClass own = some m.cls) (hK : va_K D cl tys s) (hP : va_P D cl (X ++ va_pl L F) H) (hD : va_D A (X ++ va_pl L F)) (hS0 : va_S A H0 H locs) (hq : q ∈ L) {fs : List Value} (hF : F q = .inr (ci, fs)) (hc : cl[ci]? = some (C, T, N)) (k : Nat) (hk : k < N) (hlink : (Cond.fieldLink own index ref (T k).2.1 (T k).2.2.1).before args s = true) (hsame : ∀ x, s.fieldFound? (T k).1 (T k).2.1 (T k).2.2.1 = some x → s.fieldFound? ref (T k).2.1 (T k).2.2.1 = some x) (hfin : (T k).2.2.2 = false) {ty : FieldType} {v : Value} (hd : parseFieldDescriptor (T k).2.2.1 = some ty) (hn : narrow ty v = v) (hfit : fits ty v = true) (hl : k < fs.length)
    (hdg : decode cc pc = .ok (.putfield index, 3)) (kk : ∀ (H1 : Heap) (locs1 : List Loc), va_P D cl (X ++ va_pl L (va_up F q (.inr (ci, fs.set k v)))) H1 → va_D A (X ++ va_pl L (va_up F q (.inr (ci, fs.set k v)))) → va_S A H0 H1 locs1 → W p l e R s m args below meth c H1 locs1 cells slots Q (F0 m (pc + 3) ls rest)) : W p l e R s m args below meth c H locs cells slots Q (F0 m pc ls (v :: .ref q :: rest)) := by
  obtain ⟨k9, h9⟩ := va_pl_get (X := X) (f := F) hq
  have h8 := h9
  rw [hF] at h9
  refine va_put hexec hb hts hin ty0 hty hnm hown hK hP hD hS0 k9 h9 hc k hk hlink hsame hfin hd hn hfit hl hdg (fun H1 locs1 a1 a2 a3 => ?_)
  rw [va_pl_set hD hq h8] at a1 a2
  exact kk H1 locs1 a1 a2 a3
theorem wp_putF (hexec : p.tables.exec = Jvm.exec) (hb : c.code = cc) {own ref C : String} {T : u_T} {N ci index : Nat} {Ts : List Cond} (hts : ∀ w ∈ Ts, w.before args s = true) (hin : ∀ w ∈ u_ws C T N, w ∈ Ts) (ty0 : Nat → FieldType) (hty : ∀ k, k < N → parseFieldDescriptor (T k).2.2.1 = some (ty0 k)) (hnm : ∀ a, a < N → ∀ b, b < N → a ≠ b → (T a).2.1 ≠ (T b).2.1) (hown : s.vm.findClass own = some m.cls) (hK : va_K D cl tys s) (hP : va_P D cl (X ++ va_pl L F) H) (hD : va_D A (X ++ va_pl L F)) (hS0 : va_S A H0 H locs) (hq : q ∈ L) {fs : List Value} (hF : F q = .inr (ci, fs)) (hc : cl[ci]? = some (C, T, N)) (k : Nat) (hk : k < N) (hlink : (Cond.fieldLink own index ref (T k).2.1 (T k).2.2.1).before args s = true) (hsame : ∀ x, s.fieldFound? (T k).1 (T k).2.1 (T k).2.2.1 = some x → s.fieldFound? ref (T k).2.1 (T k).2.2.1 = some x) (hfin : (T k).2.2.2 = true) (hin2 : meth.name = "<init>") (hdecl : (T k).1 = own) {ty : FieldType} {v : Value} (hd : parseFieldDescriptor (T k).2.2.1 = some ty) (hn : narrow ty v = v) (hfit : fits ty v = true) (hl : k < fs.length)
    (hdg : decode cc pc = .ok (.putfield index, 3)) (kk : ∀ (H1 : Heap) (locs1 : List Loc), va_P D cl (X ++ va_pl L (va_up F q (.inr (ci, fs.set k v)))) H1 → va_D A (X ++ va_pl L (va_up F q (.inr (ci, fs.set k v)))) → va_S A H0 H1 locs1 → W p l e R s m args below meth c H1 locs1 cells slots Q (F0 m (pc + 3) ls rest)) : W p l e R s m args below meth c H locs cells slots Q (F0 m pc ls (v :: .ref q :: rest)) := by
  obtain ⟨k9, h9⟩ := va_pl_get (X := X) (f := F) hq
  have h8 := h9
  rw [hF] at h9
  refine va_putF hexec hb hts hin ty0 hty hnm hown hK hP hD hS0 k9 h9 hc k hk hlink hsame hfin hin2 hdecl hd hn hfit hl hdg (fun H1 locs1 a1 a2 a3 => ?_)
  rw [va_pl_set hD hq h8] at a1 a2
  exact kk H1 locs1 a1 a2 a3
theorem wp_i (hexec : p.tables.exec = Jvm.exec) (hb : c.code = cc) (hK : va_K D cl tys s) (hP : va_P D cl (X ++ va_pl L F) H) (hq : q ∈ L) (t0 : Nat) {cA : ClassId} {n : Nat} {f : Nat → Int32} (hF : F q = .inl (cA, n, .inl f)) (ht : tys[t0]? = some (cA, .int)) {i : Nat} {v : Int32} (hv : f i = v) (hi : i < n) (hn : n < 2147483648) (hdg : decode cc pc = .ok (.iaload, 1))
    (kk : W p l e R s m args below meth c H locs cells slots Q (F0 m (pc + 1) ls (.int v :: rest))) : W p l e R s m args below meth c H locs cells slots Q (F0 m pc ls (.int (nI i) :: .ref q :: rest)) := by
  obtain ⟨k9, h9⟩ := va_pl_get (X := X) (f := F) hq
  rw [hF] at h9
  exact wa_i hexec hb hK hP k9 t0 h9 ht hv hi hn hdg kk
theorem wp_z (hexec : p.tables.exec = Jvm.exec) (hb : c.code = cc) (hK : va_K D cl tys s) (hP : va_P D cl (X ++ va_pl L F) H) (hq : q ∈ L) (t0 : Nat) {cA : ClassId} {n : Nat} {f : Nat → Int32} (hF : F q = .inl (cA, n, .inl f)) (ht : tys[t0]? = some (cA, .boolean)) {i : Nat} {v : Int32} (hv : f i = v) (hi : i < n) (hn : n < 2147483648) (hdg : decode cc pc = .ok (.baload, 1))
    (kk : W p l e R s m args below meth c H locs cells slots Q (F0 m (pc + 1) ls (.int v :: rest))) : W p l e R s m args below meth c H locs cells slots Q (F0 m pc ls (.int (nI i) :: .ref q :: rest)) := by
  obtain ⟨k9, h9⟩ := va_pl_get (X := X) (f := F) hq
  rw [hF] at h9
  exact wa_z hexec hb hK hP k9 t0 h9 ht hv hi hn hdg kk
theorem wp_len (hexec : p.tables.exec = Jvm.exec) (hb : c.code = cc) (hK : va_K D cl tys s) (hP : va_P D cl (X ++ va_pl L F) H) (hq : q ∈ L) (t0 : Nat) {cA : ClassId} {n : Nat} {f : (Nat → Int32) ⊕ (Nat → Int64) ⊕ (Nat → UInt32) ⊕ (Nat → UInt64) ⊕ (Nat → Option Nat)} (hF : F q = .inl (cA, n, f)) {ty : FieldType} (ht : tys[t0]? = some (cA, ty)) (hdg : decode cc pc = .ok (.arraylength, 1))
    (kk : W p l e R s m args below meth c H locs cells slots Q (F0 m (pc + 1) ls (.int (nI n) :: rest))) : W p l e R s m args below meth c H locs cells slots Q (F0 m pc ls (.ref q :: rest)) := by
  obtain ⟨k9, h9⟩ := va_pl_get (X := X) (f := F) hq
  rw [hF] at h9
  exact va_alen hexec hb hK hP k9 t0 h9 ht rfl hdg kk
theorem wp_ist (hexec : p.tables.exec = Jvm.exec) (hb : c.code = cc) (hK : va_K D cl tys s) (hP : va_P D cl (X ++ va_pl L F) H) (hD : va_D A (X ++ va_pl L F)) (hS : va_S A H0 H locs) (hq : q ∈ L) (t0 : Nat) {cA : ClassId} {n : Nat} {f : Nat → Nat} (hF : F q = .inl (cA, n, .inl (fun j => nI (f j)))) (ht : tys[t0]? = some (cA, .int)) {i x : Nat} (hi : i < n) (hn : n < 2147483648) (hdg : decode cc pc = .ok (.iastore, 1))
    (kk : ∀ (H1 : Heap) (locs1 : List Loc), va_P D cl (X ++ va_pl L (va_up F q (.inl (cA, n, .inl (fun j => nI (va_up f i x j)))))) H1 → va_D A (X ++ va_pl L (va_up F q (.inl (cA, n, .inl (fun j => nI (va_up f i x j)))))) → va_S A H0 H1 locs1 → W p l e R s m args below meth c H1 locs1 cells slots Q (F0 m (pc + 1) ls rest)) : W p l e R s m args below meth c H locs cells slots Q (F0 m pc ls (.int (nI x) :: .int (nI i) :: .ref q :: rest)) := by
  obtain ⟨k9, h9⟩ := va_pl_get (X := X) (f := F) hq
  have h8 := h9
  rw [hF] at h9
  refine wa_ist hexec hb hK hP hD hS k9 t0 h9 ht (upd_nI f i x) hi hn hdg (fun H1 locs1 a1 a2 a3 => ?_)
  rw [va_pl_set hD hq h8] at a1 a2
  exact kk H1 locs1 a1 a2 a3
theorem wp_zst (hexec : p.tables.exec = Jvm.exec) (hb : c.code = cc) (hK : va_K D cl tys s) (hP : va_P D cl (X ++ va_pl L F) H) (hD : va_D A (X ++ va_pl L F)) (hS : va_S A H0 H locs) (hq : q ∈ L) (t0 : Nat) {cA : ClassId} {n : Nat} {f : Nat → Bool} (hF : F q = .inl (cA, n, .inl (fun j => bI (f j)))) (ht : tys[t0]? = some (cA, .boolean)) {i : Nat} {b : Bool} {x : Int32} (hxb : x = bI b) (hi : i < n) (hn : n < 2147483648) (hdg : decode cc pc = .ok (.bastore, 1))
    (kk : ∀ (H1 : Heap) (locs1 : List Loc), va_P D cl (X ++ va_pl L (va_up F q (.inl (cA, n, .inl (fun j => bI (va_up f i b j)))))) H1 → va_D A (X ++ va_pl L (va_up F q (.inl (cA, n, .inl (fun j => bI (va_up f i b j)))))) → va_S A H0 H1 locs1 → W p l e R s m args below meth c H1 locs1 cells slots Q (F0 m (pc + 1) ls rest)) : W p l e R s m args below meth c H locs cells slots Q (F0 m pc ls (.int x :: .int (nI i) :: .ref q :: rest)) := by
  obtain ⟨k9, h9⟩ := va_pl_get (X := X) (f := F) hq
  have h8 := h9
  rw [hF] at h9
  refine wa_zst hexec hb hK hP hD hS k9 t0 h9 ht hxb hi hn hdg (fun H1 locs1 a1 a2 a3 => ?_)
  rw [va_pl_set hD hq h8] at a1 a2
  exact kk H1 locs1 a1 a2 a3
/-- an array class has one number -/
theorem va_K.one {cA cB : ClassId} {ty : FieldType} (hK : va_K D cl (tys ++ [(cA, ty)]) s) (t0 : Nat) (ht : tys[t0]? = some (cB, ty)) (hty : ty = .int ∨ ty = .boolean ∨ ty = .long) : cA = cB := by
  have h1 := (hK.2 tys.length (cA, ty) (by simp)).2
  have h2 := (hK.2 t0 (cB, ty) (by rw [List.getElem?_append_left (by have := List.getElem?_eq_some_iff.mp ht; exact this.1)]; exact ht)).2
  rcases hty with rfl | rfl | rfl <;> exact Option.some.inj (h1.symm.trans h2)
theorem wp_newi (hexec : p.tables.exec = Jvm.exec) (hb : c.code = cc) (harr : (Cond.arrayClass .int).before args s = true) (hK : va_K D cl tys s) (hP : va_P D cl (X ++ va_pl L F) H) (hD : va_D A (X ++ va_pl L F)) (hS : va_S A H0 H locs) (hA : ∀ q, H0.size ≤ q → A q) (t0 : Nat) {cA : ClassId} (ht : tys[t0]? = some (cA, .int)) {n : Nat} (hn : n < 2000) (hcells : cells + 1 ≤ R.cells) (hslots : slots + n ≤ R.slots) (hdg : decode cc pc = .ok (.newarray .int, 2))
    (kk : ∀ (q : Nat) (H1 : Heap), q ∉ L → va_P D cl (X ++ va_pl (L ++ [q]) (va_up F q (.inl (cA, n, .inl (fun j => nI ((fun _ => 0) j)))))) H1 → va_D A (X ++ va_pl (L ++ [q]) (va_up F q (.inl (cA, n, .inl (fun j => nI ((fun _ => 0) j)))))) → va_S A H0 H1 locs →
      W p l e R s m args below meth c H1 locs (cells + 1) (slots + n) Q (F0 m (pc + 2) ls (.ref q :: rest))) : W p l e R s m args below meth c H locs cells slots Q (F0 m pc ls (.int (nI n) :: rest)) := by
  refine va_newa (atype := .int) (ty := .int) (n := nI n) (N' := n) (a0 := (n, .inl (fun _ => 0))) hexec hb harr rfl hK hP hD hS hA (fun _ => rfl) (nI_pos (by omega)) (nI_cl (by omega)) (by simp only [componentBytes]; omega) hcells hslots hdg (fun q cB H1 hK1 hP1 hD1 hS1 => ?_)
  have he := hK1.one t0 ht (Or.inl rfl)
  subst he
  have hf : q ∉ L := va_pl_fresh2 hD1
  rw [List.append_assoc, va_pl_push hf] at hP1 hD1
  exact kk q H1 hf hP1 hD1 hS1
theorem wp_newz (hexec : p.tables.exec = Jvm.exec) (hb : c.code = cc) (harr : (Cond.arrayClass .boolean).before args s = true) (hK : va_K D cl tys s) (hP : va_P D cl (X ++ va_pl L F) H) (hD : va_D A (X ++ va_pl L F)) (hS : va_S A H0 H locs) (hA : ∀ q, H0.size ≤ q → A q) (t0 : Nat) {cA : ClassId} (ht : tys[t0]? = some (cA, .boolean)) {n : Nat} (hn : n < 2000) (hcells : cells + 1 ≤ R.cells) (hslots : slots + n ≤ R.slots) (hdg : decode cc pc = .ok (.newarray .boolean, 2))
    (kk : ∀ (q : Nat) (H1 : Heap), q ∉ L → va_P D cl (X ++ va_pl (L ++ [q]) (va_up F q (.inl (cA, n, .inl (fun j => bI ((fun _ => false) j)))))) H1 → va_D A (X ++ va_pl (L ++ [q]) (va_up F q (.inl (cA, n, .inl (fun j => bI ((fun _ => false) j)))))) → va_S A H0 H1 locs →
      W p l e R s m args below meth c H1 locs (cells + 1) (slots + n) Q (F0 m (pc + 2) ls (.ref q :: rest))) : W p l e R s m args below meth c H locs cells slots Q (F0 m pc ls (.int (nI n) :: rest)) := by
  refine va_newa (atype := .boolean) (ty := .boolean) (n := nI n) (N' := n) (a0 := (n, .inl (fun _ => 0))) hexec hb harr rfl hK hP hD hS hA (fun _ => rfl) (nI_pos (by omega)) (nI_cl (by omega)) (by simp only [componentBytes]; omega) hcells hslots hdg (fun q cB H1 hK1 hP1 hD1 hS1 => ?_)
  have he := hK1.one t0 ht (Or.inr (Or.inl rfl))
  subst he
  have hf : q ∉ L := va_pl_fresh2 hD1
  rw [List.append_assoc, va_pl_push hf] at hP1 hD1
  exact kk q H1 hf hP1 hD1 hS1
theorem wp_new (hexec : p.tables.exec = Jvm.exec) (hb : c.code = cc) {own C : String} {T : u_T} {N ci index : Nat} {Ts : List Cond} (hts : ∀ w ∈ Ts, w.before args s = true) (hin : ∀ w ∈ u_ws C T N, w ∈ Ts) (ty : Nat → FieldType) (hty : ∀ k, k < N → parseFieldDescriptor (T k).2.2.1 = some (ty k)) (hown : s.vm.findClass own = some m.cls) (hcl : (Cond.classLink own index C).before args s = true) (hinst : (Cond.instantiable C N).before args s = true) (hini : (Cond.initialized C).before args s = true)
    (hK : va_K D cl tys s) (hP : va_P D cl (X ++ va_pl L F) H) (hD : va_D A (X ++ va_pl L F)) (hS : va_S A H0 H locs) (hA : ∀ q, H0.size ≤ q → A q) (hc : cl[ci]? = some (C, T, N)) {fs : List Value} (hfs : ∀ j, j < N → defaultValue (ty j) = vp_V fs j) (hcells : cells + 1 ≤ R.cells) (hslots : slots + N ≤ R.slots) (hdg : decode cc pc = .ok (.new index, 3))
    (kk : ∀ (q : Nat) (H1 : Heap), q ∉ L → va_P D cl (X ++ va_pl (L ++ [q]) (va_up F q (.inr (ci, fs)))) H1 → va_D A (X ++ va_pl (L ++ [q]) (va_up F q (.inr (ci, fs)))) → va_S A H0 H1 locs →
      W p l e R s m args below meth c H1 locs (cells + 1) (slots + N) Q (F0 m (pc + 3) ls (.ref q :: rest))) : W p l e R s m args below meth c H locs cells slots Q (F0 m pc ls rest) := by
  refine va_new hexec hb hts hin ty hty hown hcl hinst hini hK hP hD hS hA hc hfs hcells hslots hdg (fun q H1 hP1 hD1 hS1 => ?_)
  have hf : q ∉ L := va_pl_fresh2 hD1
  rw [List.append_assoc, va_pl_push hf] at hP1 hD1
  exact kk q H1 hf hP1 hD1 hS1
theorem wp_astq (hexec : p.tables.exec = Jvm.exec) (hb : c.code = cc) (hK : va_K D cl tys s) (hP : va_P D cl (X ++ va_pl L F) H) (hD : va_D A (X ++ va_pl L F)) (hS : va_S A H0 H locs) (q0 t0 : Nat) {ci a : Nat} {cA : ClassId} {r : vw_C} {n v : Nat} {vs : List Value} {f : Nat → Option Nat} (ha : (X ++ va_pl L F)[q0]? = some (a, .inl (cA, n, .inr (.inr (.inr (.inr f)))))) (ht : tys[t0]? = some (cA, .object r.1)) (hq : v ∈ L) (hF : F v = .inr (ci, vs)) (hc : cl[ci]? = some r) {i : Nat} (hi : i < n) (hn : n < 2147483648) (hdg : decode cc pc = .ok (.aastore, 1))
    (kk : ∀ (H1 : Heap) (locs1 : List Loc), va_P D cl ((X ++ va_pl L F).set q0 (a, .inl (cA, n, .inr (.inr (.inr (.inr (va_up f i (some v)))))))) H1 → va_D A ((X ++ va_pl L F).set q0 (a, .inl (cA, n, .inr (.inr (.inr (.inr (va_up f i (some v)))))))) → va_S A H0 H1 locs1 → W p l e R s m args below meth c H1 locs1 cells slots Q (F0 m (pc + 1) ls rest)) : W p l e R s m args below meth c H locs cells slots Q (F0 m pc ls (.ref v :: .int (nI i) :: .ref a :: rest)) := by
  obtain ⟨k9, h9⟩ := va_pl_get (X := X) (f := F) hq
  rw [hF] at h9
  exact va_astq hexec hb hK hP hD hS q0 t0 k9 ci ha ht h9 hc (vi_in hi hn) hdg (by rw [nI_cl (by omega)]; exact kk)
theorem wp_aldq (hexec : p.tables.exec = Jvm.exec) (hb : c.code = cc) (hK : va_K D cl tys s) {ws : va_W} (hP : va_P D cl ws H) (q0 t0 : Nat) {a : Nat} {cA : ClassId} {C : String} {n : Nat} {f : Nat → Option Nat} (ha : ws[q0]? = some (a, .inl (cA, n, .inr (.inr (.inr (.inr f)))))) (ht : tys[t0]? = some (cA, .object C)) {i v : Nat} (hv : f i = some v) (hi : i < n) (hn : n < 2147483648) (hdg : decode cc pc = .ok (.aaload, 1))
    (kk : W p l e R s m args below meth c H locs cells slots Q (F0 m (pc + 1) ls (.ref v :: rest))) : W p l e R s m args below meth c H locs cells slots Q (F0 m pc ls (.int (nI i) :: .ref a :: rest)) :=
  va_aldq hexec hb hK hP q0 t0 ha ht (vi_in hi hn) hdg (by rw [nI_cl (by omega), hv]; exact kk)
end Pool
/-! what lies in the pool -/
def isE (L : List Nat) (F : Nat → va_E) (q : Nat) (e : va_E) : Prop := q ∈ L ∧ F q = e
def isV (L : List Nat) (F : Nat → va_E) (q hs se c g st r : Nat) : Prop := isE L F q (.inr (4, [.ref hs, .ref se, .int (nI c), .int (nI g), .int (nI st), .int (nI r)]))
def isI (cI : ClassId) (L : List Nat) (F : Nat → va_E) (q n : Nat) (f : Nat → Nat) : Prop := isE L F q (.inl (cI, n, .inl (fun j => nI (f j))))
def isZ (cZ : ClassId) (L : List Nat) (F : Nat → va_E) (q n : Nat) (f : Nat → Bool) : Prop := isE L F q (.inl (cZ, n, .inl (fun j => bI (f j))))
def isR (L : List Nat) (F : Nat → va_E) (q v hs : Nat) (cu : Bool) (kp gv en : Nat) (ed : Bool) : Prop := isE L F q (.inr (1, [.ref v, .ref hs, .int (bI cu), .int (nI kp), .int (nI gv), .int (nI en), .int (bI ed)]))
theorem isE.keep {L : List Nat} {F : Nat → va_E} {p q : Nat} {e e' : va_E} (h : isE L F p e) (hne : p ≠ q) : isE L (va_up F q e') p e := ⟨h.1, (va_up_ne F e' hne).trans h.2⟩
theorem isE.push {L : List Nat} {F : Nat → va_E} {p q : Nat} {e e' : va_E} (h : isE L F p e) (hq : q ∉ L) : isE (L ++ [q]) (va_up F q e') p e := ⟨List.mem_append_left _ h.1, (va_up_ne F e' (fun z => hq (by rw [← z]; exact h.1))).trans h.2⟩
theorem isE.new (L : List Nat) (F : Nat → va_E) (q : Nat) (e : va_E) : isE (L ++ [q]) (va_up F q e) q e := ⟨List.mem_append_right _ List.mem_cons_self, va_up_self _ _ _⟩
theorem isE.self {L : List Nat} {F : Nat → va_E} {q : Nat} {e e' : va_E} (h : isE L F q e) : isE L (va_up F q e') q e' := ⟨h.1, va_up_self _ _ _⟩
theorem ne_of_F {F : Nat → va_E} {p q : Nat} {x y : va_E} (h1 : F p = x) (h2 : F q = y) (h : x ≠ y) : p ≠ q := fun z => h (h1.symm.trans ((congrArg F z).trans h2))
theorem bI_fit (b : Bool) : fits .boolean (.int (bI b)) = true := by cases b <;> rfl
theorem dfX4 : ∀ j, j < 6 → defaultValue (tyX4 j) = vp_V [.null, .null, .int (nI (0)), .int (nI (0)), .int (nI (0)), .int (nI (0))] j := fun j hj => by
  rcases (show j = 0 ∨ j = 1 ∨ j = 2 ∨ j = 3 ∨ j = 4 ∨ j = 5 by omega) with rfl | rfl | rfl | rfl | rfl | rfl <;> rfl
theorem dfX1 : ∀ j, j < 7 → defaultValue (tyX1 j) = vp_V [.null, .null, .int (bI (false)), .int (nI (0)), .int (nI (0)), .int (nI (0)), .int (bI (false))] j := fun j hj => by
  rcases (show j = 0 ∨ j = 1 ∨ j = 2 ∨ j = 3 ∨ j = 4 ∨ j = 5 ∨ j = 6 by omega) with rfl | rfl | rfl | rfl | rfl | rfl | rfl <;> rfl
/-- the start of a method that copies a row by the machine's own copy -/
def GN (D : va_G) (tys : List (ClassId × FieldType)) (w : va_W) (sz : Nat) : State → Prop := fun U => GW D tys w sz U ∧ va_Nw (.castable "[I" "java/lang/Cloneable") U
theorem GN_blind {D : va_G} {tys : List (ClassId × FieldType)} {w : va_W} {sz : Nat} (av : List Value) : FrameBlind (va_Pc av (GN D tys w sz)) := fun a U g mk q => ⟨q.1, ⟨q.2.1.1, q.2.1.2.1, va_K.moved (u := U) (U := U.calling g mk a) (Vm.Alike.refl U.vm) q.2.1.2.2.1, q.2.1.2.2.2⟩, va_Nw.same rfl rfl q.2.2⟩
section NCalls
variable {p : Program} {l : Launch} {e : Env} {R : Room} {s : State} {m : MethodId} {args : Array Value} {below : List Frame} {meth : Method} {c : Code} {H : Heap} {locs : List Loc} {cells slots : Nat} {Q : State → Prop}
variable {y : MethodName} {bytes cc : ByteArray} {maxL nL n index mc ms : Nat} {ret : Option FieldType} {ws : List Cond} {rm : Room} {Ts : List Cond} {own C : String} {b : Addr} {As rest st0 : List Value} {pc : Nat} {ls : Array Slot}
variable {D : va_G} {tys : List (ClassId × FieldType)} {w : va_W} {ci N : Nat} {T : u_T} {fs : List Value} {A0 : Nat → Prop}
theorem wc_VWrn {S : Type} {post : S → Prop} {ra : S → Nat} {wf : S → va_W} (S0 : CallFix p m c cc nL s args Ts own) (hM : Met l y ws rm (va_Pc (.ref b :: As) (GN D tys w H.size)) (va_Qr post (fun u q t => q = ra u ∧ GB D tys (va_A w H.size) (wf u) t) (va_A w H.size)) mc ms (va_A w H.size)) (cw : CallW R s args own C index y bytes maxL ret ws rm mc ms n) (hP : va_P D vwCl w H) (hK : va_K D vwCl tys s) (hD : va_D A0 w) (hS : va_S A0 s.heap H locs) (hA : ∀ q, s.heap.size ≤ q → A0 q) (hNw : va_Nw (.castable "[I" "java/lang/Cloneable") s) (q0 : Nat) (he : w[q0]? = some (b, .inr (ci, fs))) (hc : vwCl[ci]? = some (C, T, N)) (hn : As.length = n) (hsize : ls.size = nL) (hst : st0 = As.reverse ++ .ref b :: rest) (hW : (rest.map fun v => v.category).sum ≤ 8) (hdg : decode cc pc = .ok (.invokevirtual index, 3)) (hf : cells + mc ≤ R.cells ∧ slots + ms ≤ R.slots)
    (kk : ∀ (u : S), post u → ∀ (H1 : Heap) (locs1 : List Loc), va_P D vwCl (wf u) H1 → va_D A0 (wf u) → va_S A0 s.heap H1 locs1 → W p l e R s m args below meth c H1 locs1 (cells + mc) (slots + ms) Q (F0 m (pc + 3) ls (.ref (ra u) :: rest))) : W p l e R s m args below meth c H locs cells slots Q (F0 m pc ls st0) :=
  va_callr (va_runV (g := F0 m pc ls st0) S0 hM cw ⟨GN_blind _, va_recv hK hP hc he, fun U hU hw => ⟨rfl, ⟨by rw [hU], by rw [hU]; exact hP, va_K.moved hw.alike hK, hD.weaken (fun _ _ _ _ => trivial)⟩, va_Nw.warmC hw hNw⟩⟩ rfl hn hsize hst (lv_room hW) hdg hf) hS (fun q _ h => gw_free hD hS hA q h) (gw_free hD hS hA)
    (fun u r t H1 locs1 ht _ hw hB _ _ hS1 => by obtain ⟨rfl, hB⟩ := hB; exact kk u hw H1 locs1 (by rw [← ht]; exact hB.1) (hB.2.2.weaken (fun _ q _ h => gw_free hD hS hA q.1 h)) hS1)
theorem wc_SWrn {S : Type} {post : S → Prop} {ra : S → Nat} {wf : S → va_W} (S0 : CallFix p m c cc nL s args Ts own) (hM : Met l y ws rm (va_Pc As (GN D tys w H.size)) (va_Qr post (fun u q t => q = ra u ∧ GB D tys (va_A w H.size) (wf u) t) (va_A w H.size)) mc ms (va_A w H.size)) (cw : CallB R s args own index y bytes maxL ret ws rm mc ms n ∧ (Cond.static y).before args s = true) (hP : va_P D vwCl w H) (hK : va_K D vwCl tys s) (hD : va_D A0 w) (hS : va_S A0 s.heap H locs) (hA : ∀ q, s.heap.size ≤ q → A0 q) (hNw : va_Nw (.castable "[I" "java/lang/Cloneable") s) (hn : As.length = n) (hsize : ls.size = nL) (hst : st0 = As.reverse ++ rest) (hW : (rest.map fun v => v.category).sum ≤ 8) (hdg : decode cc pc = .ok (.invokestatic index, 3)) (hf : cells + mc ≤ R.cells ∧ slots + ms ≤ R.slots)
    (kk : ∀ (u : S), post u → ∀ (H1 : Heap) (locs1 : List Loc), va_P D vwCl (wf u) H1 → va_D A0 (wf u) → va_S A0 s.heap H1 locs1 → W p l e R s m args below meth c H1 locs1 (cells + mc) (slots + ms) Q (F0 m (pc + 3) ls (.ref (ra u) :: rest))) : W p l e R s m args below meth c H locs cells slots Q (F0 m pc ls st0) :=
  va_callr (va_runS (g := F0 m pc ls st0) S0 hM cw ⟨GN_blind _, fun U hU hw => ⟨rfl, ⟨by rw [hU], by rw [hU]; exact hP, va_K.moved hw.alike hK, hD.weaken (fun _ _ _ _ => trivial)⟩, va_Nw.warmC hw hNw⟩⟩ rfl hn hsize hst (lv_room hW) hdg hf) hS (fun q _ h => gw_free hD hS hA q h) (gw_free hD hS hA)
    (fun u r t H1 locs1 ht _ hw hB _ _ hS1 => by obtain ⟨rfl, hB⟩ := hB; exact kk u hw H1 locs1 (by rw [← ht]; exact hB.1) (hB.2.2.weaken (fun _ q _ h => gw_free hD hS hA q.1 h)) hS1)
/-- a constructor's call -/
theorem wc_IWv {S : Type} {post : S → Prop} {wf : S → va_W} (S0 : CallFix p m c cc nL s args Ts own) (hM : Met l y ws rm (va_Pc (.ref b :: As) (GW D tys w H.size)) (va_Qv post (fun u => GB D tys (va_A w H.size) (wf u)) (va_A w H.size)) mc ms (va_A w H.size)) (cw : CallB R s args own index y bytes maxL none ws rm mc ms n ∧ y.name = "<init>" ∧ (Cond.instanceMethod y).before args s = true) (hP : va_P D vwCl w H) (hK : va_K D vwCl tys s) (hD : va_D A0 w) (hS : va_S A0 s.heap H locs) (hA : ∀ q, s.heap.size ≤ q → A0 q) (hn : As.length = n) (hsize : ls.size = nL) (hst : st0 = As.reverse ++ .ref b :: rest) (hW : (rest.map fun v => v.category).sum ≤ 8) (hdg : decode cc pc = .ok (.invokespecial index, 3)) (hf : cells + mc ≤ R.cells ∧ slots + ms ≤ R.slots)
    (kk : ∀ (u : S), post u → ∀ (H1 : Heap) (locs1 : List Loc), va_P D vwCl (wf u) H1 → va_D A0 (wf u) → va_S A0 s.heap H1 locs1 → W p l e R s m args below meth c H1 locs1 (cells + mc) (slots + ms) Q (F0 m (pc + 3) ls rest)) : W p l e R s m args below meth c H locs cells slots Q (F0 m pc ls st0) :=
  va_callv (va_runI (g := F0 m pc ls st0) S0 hM cw ⟨GW_blind _, fun U hU hw => ⟨rfl, by rw [hU], by rw [hU]; exact hP, va_K.moved hw.alike hK, hD.weaken (fun _ _ _ _ => trivial)⟩⟩ rfl hn hsize hst (lv_room hW) hdg hf) hS (fun q _ h => gw_free hD hS hA q h) (gw_free hD hS hA)
    (fun u t H1 locs1 ht _ hw hB _ _ hS1 => kk u hw H1 locs1 (by rw [← ht]; exact hB.1) (hB.2.2.weaken (fun _ q _ h => gw_free hD hS hA q.1 h)) hS1)
end NCalls
