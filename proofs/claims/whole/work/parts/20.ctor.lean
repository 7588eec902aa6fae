-- constructors: worlds that grow; the newest cell is the first of the list
abbrev CK : Type := va_G × ClassId × ClassId × ClassId
def cw_ty (K : CK) : List (ClassId × FieldType) := [(K.2.1, .int), (K.2.2.1, .long), (K.2.2.2, .object "UnitTurns$Setup")]
abbrev CZ : Type := Room × (State → Array Value → Method → Prop) × (State → Nat → Prop) × (State → Array Value → List Frame → State → Prop)
def cw_C (own : String) (cc : ByteArray) (nL : Nat) (K : CK) (Z : CZ) (p : Program) (s : State) (m : MethodId) (args : Array Value) (meth : Method) (c : Code) : Prop :=
  p.tables.exec = Jvm.exec ∧ c.code = cc ∧ c.maxLocals = nL ∧ s.vm.findClass own = some m.cls ∧ (∀ w ∈ hs_tbl, w.before args s = true) ∧ hs_Nest s ∧ va_AO "UnitTurns$Setup" s ∧ va_K K.1 vwCl (cw_ty K) s ∧ (∀ q, s.heap.size ≤ q → Z.2.2.1 s q) ∧ Z.2.1 s args meth
def CW (own : String) (cc : ByteArray) (nL : Nat) (K : CK) (Z : CZ) (pc : Nat) (ls : List (Option Value)) (st : List Value) (cells slots : Nat) (ws : va_W) : Prop :=
  ∀ (p : Program) (l : Launch) (e : Env) (s : State) (m : MethodId) (args : Array Value) (below : List Frame) (meth : Method) (c : Code) (H : Heap) (locs : List Loc) (Ar : Array Slot),
    cw_C own cc nL K Z p s m args meth c → va_P K.1 vwCl ws H → va_D (Z.2.2.1 s) ws → va_S (Z.2.2.1 s) s.heap H locs → hs_lv (fun q => q) Ar nL ls → W p l e Z.1 s m args below meth c H locs cells slots (Z.2.2.2 s args below) (F0 m pc Ar st)
def cs_Pc (K : CK) (h0 sz : Nat) (ws : va_W) : Array Value → State → Prop := va_Pc [.ref h0] (fun U => U.heap.size = sz ∧ va_P K.1 vwCl ws U.heap ∧ va_D (fun _ => True) ws ∧ va_K K.1 vwCl (cw_ty K) U ∧ hs_Nest U ∧ va_AO "UnitTurns$Setup" U)
def cs_Qc (K : CK) (post : va_W → Prop) (W0 : va_W) (A : Nat → Prop) : Array Value → State → Outcome → State → Prop := fun _ st oc t =>
  oc = .returned none ∧ (∃ W1, post W1 ∧ va_P K.1 vwCl (W1 ++ W0) t.heap ∧ va_D A (W1 ++ W0)) ∧ va_F A st t
def cs_rm (h mc ms : Nat) : Room := { frames := h, cells := mc, slots := ms, locals := 64 * h }
def cs_Spec (h mc ms : Nat) (y : MethodName) (cc : ByteArray) (nL : Nat) (K : CK) (o : va_E) (post : Nat → va_W → Prop) : Prop :=
  ∀ (l : Launch) (h0 sz : Nat) (W0 : va_W), Met l y (hs_ws y cc nL none) (cs_rm h mc ms) (cs_Pc K h0 sz ((h0, o) :: W0)) (cs_Qc K (post h0) W0 (va_A ((h0, o) :: W0) sz)) mc ms (va_A ((h0, o) :: W0) sz)
def cw_zM (h mc ms : Nat) (K : CK) (post : va_W → Prop) (W0 : va_W) (A : Nat → Prop) : CZ :=
  (cs_rm h mc ms, fun _ _ meth => meth.sig.returnType = none ∧ meth.locks = false ∧ meth.name = "<init>", fun _ => A, fun s args below => MQ below (cs_Qc K post W0 A) args s mc ms A)
theorem cw_rl (v : Value) : hs_rl (fun q => q) v = v := by cases v <;> rfl
-- the head of the list instead of its end
theorem cw_Pt {D : va_G} {ws : va_W} {x : Nat × va_E} {H : Heap} (h : va_P D vwCl (ws ++ [x]) H) : va_P D vwCl (x :: ws) H := by
  intro k q hk
  have hm : q ∈ ws ++ [x] := by
    have := List.mem_of_getElem? hk
    simp at this ⊢
    exact this.symm
  obtain ⟨i, hi⟩ := List.getElem?_of_mem hm
  exact h i q hi
theorem cw_Dt {A : Nat → Prop} {ws : va_W} {x : Nat × va_E} (h : va_D A (ws ++ [x])) : va_D A (x :: ws) := by
  have hl : (ws ++ [x])[ws.length]? = some x := by simp
  refine ⟨fun i j p q hp hq e => ?_, fun k q hk => ?_⟩
  · cases i with
    | zero =>
      cases j with
      | zero => rfl
      | succ j =>
        simp at hp hq
        subst hp
        have hj : j < ws.length := (List.getElem?_eq_some_iff.mp hq).1
        have := h.1 ws.length j x q hl (by rw [List.getElem?_append_left hj]; exact hq) e
        omega
    | succ i =>
      simp at hp
      have hi : i < ws.length := (List.getElem?_eq_some_iff.mp hp).1
      cases j with
      | zero =>
        simp at hq
        subst hq
        have := h.1 i ws.length p x (by rw [List.getElem?_append_left hi]; exact hp) hl e
        omega
      | succ j =>
        simp at hq
        have hj : j < ws.length := (List.getElem?_eq_some_iff.mp hq).1
        have := h.1 i j p q (by rw [List.getElem?_append_left hi]; exact hp) (by rw [List.getElem?_append_left hj]; exact hq) e
        omega
  · cases k with
    | zero =>
      simp at hk
      subst hk
      exact h.2 _ _ hl
    | succ k =>
      simp at hk
      have hk' : k < ws.length := (List.getElem?_eq_some_iff.mp hk).1
      exact h.2 k q (by rw [List.getElem?_append_left hk']; exact hk)
theorem cw_Keq {D : va_G} {tys : List (ClassId × FieldType)} {s : State} {cA cB : ClassId} {ty : FieldType} {t0 : Nat} (hK : va_K D vwCl (tys ++ [(cA, ty)]) s) (ht : tys[t0]? = some (cB, ty)) : cA = cB := by
  have h1 := (hK.2 tys.length (cA, ty) (by simp)).2
  have h2 := (hK.2 t0 (cB, ty) (by rw [List.getElem?_append_left (List.getElem?_eq_some_iff.mp ht).1]; exact ht)).2
  cases ty with
  | object C =>
    obtain ⟨kA, comp, -, -, -, e1⟩ := h1
    obtain ⟨kB, comp', -, -, -, e2⟩ := h2
    exact Option.some.inj (e1.symm.trans e2)
  | _ => exact Option.some.inj (h1.symm.trans h2)
section CWr
variable {own : String} {cc : ByteArray} {nL : Nat} {K : CK} {Z : CZ} {pc pc' : Nat} {ls : List (Option Value)} {st : List Value} {cells slots : Nat} {ws : va_W}
theorem cw_aload_n {kk : Fin 4} {x : Nat} (hd : Dc cc pc (.aload_n kk) 1 pc') (hl : ls[(kk : Nat)]? = some (some (.ref x))) (k : CW own cc nL K Z pc' ls (.ref x :: st) cells slots ws) : CW own cc nL K Z pc ls st cells slots ws := by
  intro p l e s m args below meth c H locs Ar C hP hD hS L
  obtain ⟨hd, rfl⟩ := hd
  exact lv_aload_n C.1 C.2.1 hd rfl (L.2.2 _ _ hl) (k p l e s m args below meth c H locs Ar C hP hD hS L)
theorem cw_iload_n {kk : Fin 4} {x : Int32} (hd : Dc cc pc (.iload_n kk) 1 pc') (hl : ls[(kk : Nat)]? = some (some (.int x))) (k : CW own cc nL K Z pc' ls (.int x :: st) cells slots ws) : CW own cc nL K Z pc ls st cells slots ws := by
  intro p l e s m args below meth c H locs Ar C hP hD hS L
  obtain ⟨hd, rfl⟩ := hd
  exact lv_iload_n C.1 C.2.1 hd rfl (L.2.2 _ _ hl) (k p l e s m args below meth c H locs Ar C hP hD hS L)
theorem cw_iconst {n : Int} {v : Int32} (hd : Dc cc pc (.iconst n) 1 pc') (hv : Int32.ofInt n = v) (k : CW own cc nL K Z pc' ls (.int v :: st) cells slots ws) : CW own cc nL K Z pc ls st cells slots ws := by
  intro p l e s m args below meth c H locs Ar C hP hD hS L
  obtain ⟨hd, rfl⟩ := hd
  exact lv_iconst C.1 C.2.1 hd hv (k p l e s m args below meth c H locs Ar C hP hD hS L)
theorem cw_bipush {n : Int} {v : Int32} (hd : Dc cc pc (.bipush n) 2 pc') (hv : (Int8.ofInt n).toInt32 = v) (k : CW own cc nL K Z pc' ls (.int v :: st) cells slots ws) : CW own cc nL K Z pc ls st cells slots ws := by
  intro p l e s m args below meth c H locs Ar C hP hD hS L
  obtain ⟨hd, rfl⟩ := hd
  exact lv_bipush C.1 C.2.1 hd hv (k p l e s m args below meth c H locs Ar C hP hD hS L)
theorem cw_sipush {n : Int} {v : Int32} (hd : Dc cc pc (.sipush n) 3 pc') (hv : (Int16.ofInt n).toInt32 = v) (k : CW own cc nL K Z pc' ls (.int v :: st) cells slots ws) : CW own cc nL K Z pc ls st cells slots ws := by
  intro p l e s m args below meth c H locs Ar C hP hD hS L
  obtain ⟨hd, rfl⟩ := hd
  exact lv_sipush C.1 C.2.1 hd hv (k p l e s m args below meth c H locs Ar C hP hD hS L)
theorem cw_dup {v : Value} (hd : Dc cc pc .dup 1 pc') (hc : v.category = 1) (k : CW own cc nL K Z pc' ls (v :: v :: st) cells slots ws) : CW own cc nL K Z pc ls (v :: st) cells slots ws := by
  intro p l e s m args below meth c H locs Ar C hP hD hS L
  obtain ⟨hd, rfl⟩ := hd
  exact lv_dup C.1 C.2.1 hd hc (k p l e s m args below meth c H locs Ar C hP hD hS L)
theorem cw_goto {off : Int} {n : Nat} (hd : Dc cc pc (.goto off) 3 n) (ht : (pc : Int) + off = (pc' : Int)) (k : CW own cc nL K Z pc' ls st cells slots ws) : CW own cc nL K Z pc ls st cells slots ws := by
  intro p l e s m args below meth c H locs Ar C hP hD hS L
  exact lv_goto C.1 C.2.1 hd.1 ht (k p l e s m args below meth c H locs Ar C hP hD hS L)
theorem cw_icmp_ge {x y : Int32} {off : Int} {tgt : Nat} (hd : Dc cc pc (.if_icmp .ge off) 3 pc') (ht : (pc : Int) + off = (tgt : Int)) (kt : y ≤ x → CW own cc nL K Z tgt ls st cells slots ws) (kf : ¬ y ≤ x → CW own cc nL K Z pc' ls st cells slots ws) : CW own cc nL K Z pc ls (.int y :: .int x :: st) cells slots ws := by
  intro p l e s m args below meth c H locs Ar C hP hD hS L
  obtain ⟨hd, rfl⟩ := hd
  exact lv_icmp_ge C.1 C.2.1 hd ht (fun h => kt h p l e s m args below meth c H locs Ar C hP hD hS L) (fun h => kf h p l e s m args below meth c H locs Ar C hP hD hS L)
theorem cw_istore_n {kk : Fin 4} {i : Nat} {x : Int32} {ls' : List (Option Value)} (hd : Dc cc pc (.istore_n kk) 1 pc') (hi : (kk : Nat) = i) (hn : i < nL) (h2 : hs_no2 ls i = true) (hs : ls.set i (some (.int x)) = ls') (k : CW own cc nL K Z pc' ls' st cells slots ws) : CW own cc nL K Z pc ls (.int x :: st) cells slots ws := by
  intro p l e s m args below meth c H locs Ar C hP hD hS L
  obtain ⟨hd, rfl⟩ := hd
  subst hs
  exact lv_istore_n C.1 C.2.1 hd hi (hs_lv_has.mp L) hn rfl (fun A' hA => k p l e s m args below meth c H locs A' C hP hD hS (hs_lv_st (w := .int x) h2 hA))
theorem cw_astore_n {kk : Fin 4} {i : Nat} {x : Nat} {ls' : List (Option Value)} (hd : Dc cc pc (.astore_n kk) 1 pc') (hi : (kk : Nat) = i) (hn : i < nL) (h2 : hs_no2 ls i = true) (hs : ls.set i (some (.ref x)) = ls') (k : CW own cc nL K Z pc' ls' st cells slots ws) : CW own cc nL K Z pc ls (.ref x :: st) cells slots ws := by
  intro p l e s m args below meth c H locs Ar C hP hD hS L
  obtain ⟨hd, rfl⟩ := hd
  subst hs
  exact lv_astore_n C.1 C.2.1 hd hi (hs_lv_has.mp L) hn rfl (fun A' hA => k p l e s m args below meth c H locs A' C hP hD hS (hs_lv_st (w := .ref x) h2 hA))
theorem cw_iinc {i : Nat} {n : Int} {x v : Int32} {ls' : List (Option Value)} (hd : Dc cc pc (.iinc i n) 3 pc') (hn : i < nL) (hl : ls[i]? = some (some (.int x))) (hv : x + Int32.ofInt n = v) (h2 : hs_no2 ls i = true) (hs : ls.set i (some (.int v)) = ls') (k : CW own cc nL K Z pc' ls' st cells slots ws) : CW own cc nL K Z pc ls st cells slots ws := by
  intro p l e s m args below meth c H locs Ar C hP hD hS L
  obtain ⟨hd, rfl⟩ := hd
  subst hs
  obtain ⟨j, hj⟩ := List.getElem?_of_mem ((hs_pr_mem (ad := fun q => q) ls 0 (i, .int x)).mpr ⟨i, .int x, hl, by simp [hs_rl]⟩)
  exact lv_iinc C.1 C.2.1 hd (hs_lv_has.mp L) hj hv hn rfl (fun A' hA => k p l e s m args below meth c H locs A' C hP hD hS (hs_lv_st (w := .int v) h2 hA))
theorem cw_objInit {ix a : Nat} (hd : Dc cc pc (.invokespecial ix) 3 pc') (hm : Cond.methodLink own ix Lib.objectInit ∈ hs_tbl ∧ Cond.instanceMethod Lib.objectInit ∈ hs_tbl ∧ Cond.code Lib.objectInit ⟨#[0xb1]⟩ 1 none ∈ hs_tbl) (hR : 1 ≤ Z.1.frames ∧ 30 ≤ Z.1.locals) (hw : (st.map fun v => v.category).sum ≤ 8)
    (k : CW own cc nL K Z pc' ls st cells slots ws) : CW own cc nL K Z pc ls (.ref a :: st) cells slots ws := by
  intro p l e s m args below meth c H locs Ar C hP hD hS L
  obtain ⟨hd, rfl⟩ := hd
  have hts := C.2.2.2.2.1
  refine W.objInit C.1 C.2.1 C.2.2.2.1 (hts _ hm.1) (hts _ hm.2.1) (hts _ hm.2.2) rfl (by rw [C.2.2.1]; exact L.1) rfl hd hR.1 ?_ (k p l e s m args below meth c H locs Ar C hP hD hS L)
  have := lv_room (m := m) (pc := pc) (ls := Ar) (rest := .ref a :: st) hw
  have := hR.2
  omega
theorem cw_new {ix ci N : Nat} {CC : String} {T : u_T} {ty : Nat → FieldType} {fs : List Value} (hd : Dc cc pc (.new ix) 3 pc') (hin : ∀ w ∈ u_ws CC T N, w ∈ hs_tbl) (hty : ∀ k, k < N → parseFieldDescriptor (T k).2.2.1 = some (ty k)) (hm : Cond.classLink own ix CC ∈ hs_tbl ∧ Cond.instantiable CC N ∈ hs_tbl ∧ Cond.initialized CC ∈ hs_tbl) (hc : vwCl[ci]? = some (CC, T, N)) (hfs : ∀ j, j < N → defaultValue (ty j) = vp_V fs j) (hR : cells + 1 ≤ Z.1.cells ∧ slots + N ≤ Z.1.slots)
    (k : ∀ q, CW own cc nL K Z pc' ls (.ref q :: st) (cells + 1) (slots + N) ((q, .inr (ci, fs)) :: ws)) : CW own cc nL K Z pc ls st cells slots ws := by
  intro p l e s m args below meth c H locs Ar C hP hD hS L
  obtain ⟨hd, rfl⟩ := hd
  have hts := C.2.2.2.2.1
  exact va_new (ci := ci) (fs := fs) C.1 C.2.1 hts hin ty hty C.2.2.2.1 (hts _ hm.1) (hts _ hm.2.1) (hts _ hm.2.2) C.2.2.2.2.2.2.2.1 hP hD hS C.2.2.2.2.2.2.2.2.1 hc hfs hR.1 hR.2 hd (fun q H1 hP hD hS => k q p l e s m args below meth c H1 locs Ar C (cw_Pt hP) (cw_Dt hD) hS L)
theorem cw_newI {n : Int32} {N : Nat} (hd : Dc cc pc (.newarray .int) 2 pc') (ha : Cond.arrayClass .int ∈ hs_tbl) (hn : ¬ n < 0) (hN : n.toNatClampNeg = N) (hb : N ≤ 100000) (hR : cells + 1 ≤ Z.1.cells ∧ slots + N ≤ Z.1.slots)
    (k : ∀ q, CW own cc nL K Z pc' ls (.ref q :: st) (cells + 1) (slots + N) ((q, .inl (K.2.1, N, .inl (fun _ => 0))) :: ws)) : CW own cc nL K Z pc ls (.int n :: st) cells slots ws := by
  intro p l e s m args below meth c H locs Ar C hP hD hS L
  obtain ⟨hd, rfl⟩ := hd
  have hts := C.2.2.2.2.1
  refine va_newa (atype := .int) (ty := .int) (N' := N) (a0 := (N, .inl (fun _ => 0))) C.1 C.2.1 (hts _ ha) rfl C.2.2.2.2.2.2.2.1 hP hD hS C.2.2.2.2.2.2.2.2.1 (fun _ => rfl) hn hN ?_ hR.1 hR.2 hd (fun q cA H1 hK hP hD hS => ?_)
  · have : componentBytes FieldType.int = 4 := rfl
    rw [this]; omega
  · obtain rfl := cw_Keq (t0 := 0) hK rfl
    exact k q p l e s m args below meth c H1 locs Ar C (cw_Pt hP) (cw_Dt hD) hS L
theorem cw_newL {n : Int32} {N : Nat} (hd : Dc cc pc (.newarray .long) 2 pc') (ha : Cond.arrayClass .long ∈ hs_tbl) (hn : ¬ n < 0) (hN : n.toNatClampNeg = N) (hb : N ≤ 100000) (hR : cells + 1 ≤ Z.1.cells ∧ slots + N ≤ Z.1.slots)
    (k : ∀ q, CW own cc nL K Z pc' ls (.ref q :: st) (cells + 1) (slots + N) ((q, .inl (K.2.2.1, N, .inr (.inl (fun _ => 0)))) :: ws)) : CW own cc nL K Z pc ls (.int n :: st) cells slots ws := by
  intro p l e s m args below meth c H locs Ar C hP hD hS L
  obtain ⟨hd, rfl⟩ := hd
  have hts := C.2.2.2.2.1
  refine va_newa (atype := .long) (ty := .long) (N' := N) (a0 := (N, .inr (.inl (fun _ => 0)))) C.1 C.2.1 (hts _ ha) rfl C.2.2.2.2.2.2.2.1 hP hD hS C.2.2.2.2.2.2.2.2.1 (fun _ => rfl) hn hN ?_ hR.1 hR.2 hd (fun q cA H1 hK hP hD hS => ?_)
  · have : componentBytes FieldType.long = 8 := rfl
    rw [this]; omega
  · obtain rfl := cw_Keq (t0 := 1) hK rfl
    exact k q p l e s m args below meth c H1 locs Ar C (cw_Pt hP) (cw_Dt hD) hS L
theorem cw_newq {ix : Nat} {n : Int32} {N : Nat} (hd : Dc cc pc (.anewarray ix) 3 pc') (hl : Cond.classLink own ix "UnitTurns$Setup" ∈ hs_tbl) (hn : ¬ n < 0) (hN : n.toNatClampNeg = N) (hb : N ≤ 100000) (hR : cells + 1 ≤ Z.1.cells ∧ slots + N ≤ Z.1.slots)
    (k : ∀ q, CW own cc nL K Z pc' ls (.ref q :: st) (cells + 1) (slots + N) ((q, .inl (K.2.2.2, N, .inr (.inr (.inr (.inr (fun _ => none)))))) :: ws)) : CW own cc nL K Z pc ls (.int n :: st) cells slots ws := by
  intro p l e s m args below meth c H locs Ar C hP hD hS L
  obtain ⟨hd, rfl⟩ := hd
  have hts := C.2.2.2.2.1
  refine va_newq (N' := N) C.1 C.2.1 C.2.2.2.1 (hts _ hl) C.2.2.2.2.2.2.1 C.2.2.2.2.2.2.2.1 hP hD hS C.2.2.2.2.2.2.2.2.1 hn hN (by omega) hR.1 hR.2 hd (fun q cA H1 hK hP hD hS => ?_)
  obtain rfl := cw_Keq (t0 := 2) hK rfl
  exact k q p l e s m args below meth c H1 locs Ar C (cw_Pt hP) (cw_Dt hD) hS L
theorem cw_aast {q0 qk a v n : Nat} {i : Int32} {f : Nat → Option Nat} {vs : List Value} {ws' : va_W} (hd : Dc cc pc .aastore 1 pc') (ha : ws[q0]? = some (a, .inl (K.2.2.2, n, .inr (.inr (.inr (.inr f)))))) (hv : ws[qk]? = some (v, .inr (6, vs))) (hin : vp_in i n) (hw : ws.set q0 (a, .inl (K.2.2.2, n, .inr (.inr (.inr (.inr (va_up f i.toNatClampNeg (some v))))))) = ws')
    (k : CW own cc nL K Z pc' ls st cells slots ws') : CW own cc nL K Z pc ls (.ref v :: .int i :: .ref a :: st) cells slots ws := by
  intro p l e s m args below meth c H locs Ar C hP hD hS L
  obtain ⟨hd, rfl⟩ := hd
  subst hw
  exact va_astq (r := (RX6, TX6, 8)) C.1 C.2.1 C.2.2.2.2.2.2.2.1 hP hD hS q0 2 qk 6 ha rfl hv rfl hin hd (fun H1 locs1 hP hD hS => k p l e s m args below meth c H1 locs1 Ar C hP hD hS L)
theorem cw_iast {q0 a n : Nat} {i x : Int32} {f : Nat → Int32} {ws' : va_W} (hd : Dc cc pc .iastore 1 pc') (ha : ws[q0]? = some (a, .inl (K.2.1, n, .inl f))) (hin : vp_in i n) (hw : ws.set q0 (a, .inl (K.2.1, n, .inl (upd f i.toNatClampNeg x))) = ws')
    (k : CW own cc nL K Z pc' ls st cells slots ws') : CW own cc nL K Z pc ls (.int x :: .int i :: .ref a :: st) cells slots ws := by
  intro p l e s m args below meth c H locs Ar C hP hD hS L
  obtain ⟨hd, rfl⟩ := hd
  subst hw
  exact va_iast C.1 C.2.1 C.2.2.2.2.2.2.2.1 hP hD hS q0 0 ha rfl hin hd (fun H1 locs1 hP hD hS => k p l e s m args below meth c H1 locs1 Ar C hP hD hS L)
theorem cw_get {ix ci kf q0 a : Nat} {fs : List Value} {v : Value} (hd : Dc cc pc (.getfield ix) 3 pc') (hf : hs_FL own ix ci kf) (he : ws[q0]? = some (a, .inr (ci, fs))) (hv : fs[kf]? = some v) (k : CW own cc nL K Z pc' ls (v :: st) cells slots ws) : CW own cc nL K Z pc ls (.ref a :: st) cells slots ws := by
  intro p l e s m args below meth c H locs Ar C hP hD hS L
  obtain ⟨hd, rfl⟩ := hd
  obtain ⟨CC, T, N, ty0, h1, h2, h3, h4, h5, h6⟩ := hf
  exact va_get C.1 C.2.1 C.2.2.2.2.1 h4 C.2.2.2.1 C.2.2.2.2.2.2.2.1 hP q0 he h1 kf h2 (C.2.2.2.2.1 _ h3) (fun _ h => h) hv hd (k p l e s m args below meth c H locs Ar C hP hD hS L)
theorem cw_put {ix ci kf q0 a : Nat} {fs : List Value} {x : Int32} {ws' : va_W} (hd : Dc cc pc (.putfield ix) 3 pc') (hf : hs_FW own ix ci kf .int) (he : ws[q0]? = some (a, .inr (ci, fs))) (hl : kf < fs.length) (hw : ws.set q0 (a, .inr (ci, fs.set kf (.int x))) = ws') (k : CW own cc nL K Z pc' ls st cells slots ws') : CW own cc nL K Z pc ls (.int x :: .ref a :: st) cells slots ws := by
  intro p l e s m args below meth c H locs Ar C hP hD hS L
  obtain ⟨hd, rfl⟩ := hd
  subst hw
  obtain ⟨CC, T, N, ty0, h1, h2, h3, h4, h5, h6, h7, h8⟩ := hf
  exact va_put (v := .int x) C.1 C.2.1 C.2.2.2.2.1 h4 ty0 h5 h6 C.2.2.2.1 C.2.2.2.2.2.2.2.1 hP hD hS q0 he h1 kf h2 (C.2.2.2.2.1 _ h3) (fun _ h => h) h7 h8 rfl rfl hl hd (fun H1 locs1 hP hD hS => k p l e s m args below meth c H1 locs1 Ar C hP hD hS L)
end CWr
/-- a final field of a reference kind, put in its class's constructor -/
def cw_FF (own : String) (ix ci kf : Nat) : Prop := ∃ (T : u_T) (N : Nat) (ty0 : Nat → FieldType) (ty : FieldType), vwCl[ci]? = some (own, T, N) ∧ kf < N ∧ Cond.fieldLink own ix (T kf).1 (T kf).2.1 (T kf).2.2.1 ∈ hs_tbl ∧ (∀ w ∈ u_ws own T N, w ∈ hs_tbl) ∧ (∀ k, k < N → parseFieldDescriptor (T k).2.2.1 = some (ty0 k)) ∧ (∀ a, a < N → ∀ b, b < N → a ≠ b → (T a).2.1 ≠ (T b).2.1) ∧ (T kf).2.2.2 = true ∧ (T kf).1 = own ∧ parseFieldDescriptor (T kf).2.2.1 = some ty ∧ ∀ q : Nat, narrow ty (.ref q) = .ref q ∧ fits ty (.ref q) = true
section CWm
variable {own : String} {cc : ByteArray} {nL : Nat} {K : CK} {pc pc' : Nat} {ls : List (Option Value)} {st : List Value} {cells slots : Nat} {ws W0 : va_W} {h mc ms : Nat} {post : va_W → Prop} {A : Nat → Prop}
theorem cw_putF {ix ci kf q0 a q : Nat} {fs : List Value} {ws' : va_W} (hd : Dc cc pc (.putfield ix) 3 pc') (hf : cw_FF own ix ci kf) (he : ws[q0]? = some (a, .inr (ci, fs))) (hl : kf < fs.length) (hw : ws.set q0 (a, .inr (ci, fs.set kf (.ref q))) = ws') (k : CW own cc nL K (cw_zM h mc ms K post W0 A) pc' ls st cells slots ws') : CW own cc nL K (cw_zM h mc ms K post W0 A) pc ls (.ref q :: .ref a :: st) cells slots ws := by
  intro p l e s m args below meth c H locs Ar C hP hD hS L
  obtain ⟨hd, rfl⟩ := hd
  subst hw
  obtain ⟨T, N, ty0, ty, h1, h2, h3, h4, h5, h6, h7, h8, h9, h10⟩ := hf
  exact va_putF (v := .ref q) C.1 C.2.1 C.2.2.2.2.1 h4 ty0 h5 h6 C.2.2.2.1 C.2.2.2.2.2.2.2.1 hP hD hS q0 he h1 kf h2 (C.2.2.2.2.1 _ h3) (fun _ h => h) h7 C.2.2.2.2.2.2.2.2.2.2.2 h8 h9 (h10 q).1 (h10 q).2 hl hd (fun H1 locs1 hP hD hS => k p l e s m args below meth c H1 locs1 Ar C hP hD hS L)
theorem cw_ret {W1 : va_W} (hd : Dc cc pc .return_ 1 pc') (hc : cells = mc) (hs : slots = ms) (hw : ws = W1 ++ W0) (hp : post W1) : CW own cc nL K (cw_zM h mc ms K post W0 A) pc ls [] cells slots ws := by
  intro p l e s m args below meth c H locs Ar C hP hD hS L
  subst hc; subst hs; subst hw
  obtain ⟨hx, hb, hml, hown, hts, hne, hao, hK, hA, hr, hlocks, -⟩ := C
  exact W.vret hx hb hr (fun t ht hW => ⟨rfl, ⟨W1, hp, by rw [ht]; exact hP, hD⟩, hS.F ht⟩) hS.2.2 hd.1 hlocks
end CWm
theorem cs_blind (K : CK) (h0 sz : Nat) (ws : va_W) : FrameBlind (cs_Pc K h0 sz ws) := by
  intro a U g mk ⟨h1, hs, hP, hD, hK, hN, hO⟩
  exact ⟨h1, hs, hP, hD, va_K.moved (u := U) (U := U.calling g mk a) (Vm.Alike.refl U.vm) hK, hN.same (U := U.calling g mk a) rfl, va_AO.moved (u := U) (U := U.calling g mk a) (Vm.Alike.refl U.vm) hO⟩
theorem cs_spec {h mc ms : Nat} {y : MethodName} {cc : ByteArray} {nL : Nat} {K : CK} {o : va_E} {post : Nat → va_W → Prop} (hy : plainFor y = true) (hyn : y.name = "<init>") (hn : 1 ≤ nL)
    (hw : ∀ (h0 : Nat) (W0 : va_W) (A : Nat → Prop), CW y.cls cc nL K (cw_zM h mc ms K (post h0) W0 A) 0 (some (.ref h0) :: List.replicate (nL - 1) none) [] 0 0 ((h0, o) :: W0)) : cs_Spec h mc ms y cc nL K o post := by
  intro l h0 sz W0
  refine hs_ofW (cc := cc) (maxL := nL) (ret := none) hy rfl ?_
  intro p e s m args below meth c s₁ B hml hv
  obtain ⟨rfl, rfl, hP, hD, hK, hN, hO⟩ := hv
  have hts := atoms_spec (ws := hs_ws y cc nL none) B.pre
  have hl := lv_entry ([.ref h0]) (n := nL) (by show 1 ≤ nL; exact hn)
  rw [lg_entry_eq]
  refine hw h0 W0 (va_A ((h0, o) :: W0) s.heap.size) p l e s m _ below meth c s.heap [] _ ⟨B.exec, B.bytes, hml, findClass_of_methodNamed B.named, fun w hw => hts w (List.mem_cons_of_mem _ hw), hN, hO, hK, fun q hq => Or.inr hq, B.returns, B.notSynchronized, (name_of_methodNamed B.named B.method).1.trans hyn⟩ hP hD.self va_S.rf ⟨hl.1, hl.2.1, fun i v hi => ?_⟩
  cases i with
  | zero =>
    simp at hi
    subst hi
    exact hl.2.2 (0, .ref h0) List.mem_cons_self
  | succ i =>
    simp [List.getElem?_replicate] at hi
section CWc
variable {own : String} {cc : ByteArray} {nL : Nat} {K : CK} {Z : CZ} {pc pc' : Nat} {ls : List (Option Value)} {st : List Value} {cells slots : Nat} {ws : va_W}
theorem cw_after {p : Program} {l : Launch} {e : Env} {s : State} {m : MethodId} {args : Array Value} {below : List Frame} {meth : Method} {c : Code} {H : Heap} {locs : List Loc} {Ar : Array Slot} {st0 : List Value} {a : Array Value} {mc' ms' h1 : Nat} {o : va_E} {post : Nat → va_W → Prop}
    (C : cw_C own cc nL K Z p s m args meth c) (hP : va_P K.1 vwCl ((h1, o) :: ws) H) (hD : va_D (Z.2.2.1 s) ((h1, o) :: ws)) (hS : va_S (Z.2.2.1 s) s.heap H locs) (L : hs_lv (fun q => q) Ar nL ls)
    (hr : va_Run p l e Z.1 s m args below meth c H locs cells slots mc' ms' (F0 m pc Ar st0) st (cs_Qc K (post h1) ws (va_A ((h1, o) :: ws) H.size) a) (va_A ((h1, o) :: ws) H.size))
    (k : ∀ W1, post h1 W1 → CW own cc nL K Z (pc + 3) ls st (cells + mc') (slots + ms') (W1 ++ ws)) : W p l e Z.1 s m args below meth c H locs cells slots (Z.2.2.2 s args below) (F0 m pc Ar st0) := by
  intro T hT X
  obtain ⟨v', st₀, t, T', LL, h0, X', hL, e1, e2, ⟨hv', ⟨W1, hp, hP', hD'⟩, hz, hk⟩, go⟩ := hr T hT X
  cases hv'
  rw [h0] at hz hk
  have hA := C.2.2.2.2.2.2.2.2.1
  have hF : ∀ q, va_A ((h1, o) :: ws) H.size q → Z.2.2.1 s q := by
    rintro q (⟨i, e, hi⟩ | hq)
    · exact hD.2 i (q, e) hi
    · exact hA q (Nat.le_trans hS.1 hq)
  have hS' : va_S (Z.2.2.1 s) s.heap T'.heap (locs ++ LL) := ⟨Nat.le_trans hS.1 (by rw [e1]; exact hz), fun q h1 h2 => by
      rw [e1, hk q (Nat.lt_of_lt_of_le h1 hS.1) (fun z => h2 (hF q z))]; exact hS.2.1 q h1 h2, fun q hq => by
      rcases List.mem_append.mp hq with h | h
      · exact hS.2.2 q h
      · exact hF _ (hL q h)⟩
  obtain ⟨t2, a1, b1⟩ := k W1 hp p l e s m args below meth c T'.heap (locs ++ LL) Ar C (by rw [e1]; exact hP') (hD'.weaken (fun _ q _ h => hF q.1 h)) hS' L T' rfl X'
  exact ⟨t2, go t2 a1, b1⟩
theorem cw_callN {ix nL' h1 hh mc' ms' : Nat} {y : MethodName} {host : String} {cc' : ByteArray} {o : va_E} {post : Nat → va_W → Prop} (hd : Dc cc pc (.invokespecial ix) 3 pc') (hm : Cond.code y cc' nL' none ∈ hs_tbl ∧ Cond.initialized y.cls ∈ hs_tbl ∧ (own, ix, y, host) ∈ hs_nest ∧ (y.cls ≠ "java/lang/invoke/MethodHandle" ∧ y.cls ≠ "java/lang/invoke/VarHandle" ∧ (parseMethodDescriptor y.desc).map (fun d => d.parameters.length) = some 0) ∧ nL' ≤ 45 ∧ y.name = "<init>" ∧ Cond.instanceMethod y ∈ hs_tbl) (hs : cs_Spec hh mc' ms' y cc' nL' K o post) (hR : hh + 1 ≤ Z.1.frames ∧ 64 * hh + 64 ≤ Z.1.locals ∧ cells + mc' ≤ Z.1.cells ∧ slots + ms' ≤ Z.1.slots) (hw : (st.map fun v => v.category).sum ≤ 8)
    (k : ∀ W1, post h1 W1 → CW own cc nL K Z pc' ls st (cells + mc') (slots + ms') (W1 ++ ws)) : CW own cc nL K Z pc ls (.ref h1 :: st) cells slots ((h1, o) :: ws) := by
  intro p l e s m args below meth c H locs Ar C hP hD hS L
  obtain ⟨hd, rfl⟩ := hd
  obtain ⟨w1, w2, w3, w4, w5, w6, w7⟩ := hm
  have hts := C.2.2.2.2.1
  have cb : va_CN Z.1 s args own ix y host cc' nL' none (hs_ws y cc' nL' none) (cs_rm hh mc' ms') mc' ms' 0 := va_cnB 0 hts (hs_GoodIn w1) rfl rfl rfl (C.2.2.2.2.2.1 _ w3) (hts _ w2) w4 ⟨hR.1, by have := hR.2.1; simp only [cs_rm]; omega⟩
  exact cw_after C hP hD hS L (va_runIN (As := []) ⟨C.1, C.2.1, C.2.2.1, C.2.2.2.1, hts⟩ (hs l h1 H.size ws) ⟨cb, w6, hts _ w7⟩ ⟨cs_blind K h1 _ _, fun U hU hW => ⟨rfl, by rw [hU], by rw [hU]; exact hP, hD.weaken (fun _ _ _ _ => trivial), va_K.moved hW.alike C.2.2.2.2.2.2.2.1, C.2.2.2.2.2.1.warm hW, va_AO.moved hW.alike C.2.2.2.2.2.2.1⟩⟩ rfl rfl L.1 rfl (lv_room hw) hd hR.2.2) k
theorem cw_callI {ix nL' h1 hh mc' ms' : Nat} {y : MethodName} {cc' : ByteArray} {o : va_E} {post : Nat → va_W → Prop} (hd : Dc cc pc (.invokespecial ix) 3 pc') (hm : hs_MB own ix y cc' nL' none 0 ∧ y.name = "<init>" ∧ Cond.instanceMethod y ∈ hs_tbl) (hs : cs_Spec hh mc' ms' y cc' nL' K o post) (hR : hh + 1 ≤ Z.1.frames ∧ 64 * hh + 64 ≤ Z.1.locals ∧ cells + mc' ≤ Z.1.cells ∧ slots + ms' ≤ Z.1.slots) (hw : (st.map fun v => v.category).sum ≤ 8)
    (k : ∀ W1, post h1 W1 → CW own cc nL K Z pc' ls st (cells + mc') (slots + ms') (W1 ++ ws)) : CW own cc nL K Z pc ls (.ref h1 :: st) cells slots ((h1, o) :: ws) := by
  intro p l e s m args below meth c H locs Ar C hP hD hS L
  obtain ⟨hd, rfl⟩ := hd
  obtain ⟨⟨w1, w2, w3, w4, w5⟩, w6, w7⟩ := hm
  have hts := C.2.2.2.2.1
  have cb : CallB Z.1 s args own ix y cc' nL' none (hs_ws y cc' nL' none) (cs_rm hh mc' ms') mc' ms' 0 := callB_of 0 hts (hs_GoodIn w1) rfl rfl rfl (hts _ w2) (hts _ w3) w4 ⟨hR.1, by have := hR.2.1; simp only [cs_rm]; omega⟩
  exact cw_after C hP hD hS L (va_runI (As := []) ⟨C.1, C.2.1, C.2.2.1, C.2.2.2.1, hts⟩ (hs l h1 H.size ws) ⟨cb, w6, hts _ w7⟩ ⟨cs_blind K h1 _ _, fun U hU hW => ⟨rfl, by rw [hU], by rw [hU]; exact hP, hD.weaken (fun _ _ _ _ => trivial), va_K.moved hW.alike C.2.2.2.2.2.2.2.1, C.2.2.2.2.2.1.warm hW, va_AO.moved hW.alike C.2.2.2.2.2.2.1⟩⟩ rfl rfl L.1 rfl (lv_room hw) hd hR.2.2) k
end CWc
