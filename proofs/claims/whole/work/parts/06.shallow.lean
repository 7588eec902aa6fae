/-- reading, writing a row with a look at the index -/
def inR (i : Int32) (n : Nat) : Bool := decide (0 ≤ i.toInt ∧ i.toInt < n)
def ldI (f : Nat → Int32) (n : Nat) (i : Int32) : Option Int32 := if inR i n then some (f i.toNatClampNeg) else none
def ldJ (f : Nat → Int64) (n : Nat) (i : Int32) : Option Int64 := if inR i n then some (f i.toNatClampNeg) else none
def ldR (n : Nat) (i : Int32) : Option Nat := if inR i n then some i.toNatClampNeg else none
def stI (σ : HS) (o n : Nat) (i x : Int32) : Option HS := if inR i n then some (sI σ o i.toNatClampNeg x) else none
def stJ (σ : HS) (o n : Nat) (i : Int32) (x : Int64) : Option HS := if inR i n then some (sL σ o i.toNatClampNeg x) else none
def dvI (x y : Int32) : Option Int32 := if y = 0 then none else some (x / y)
def rmI (x y : Int32) : Option Int32 := if y = 0 then none else some (x - x / y * y)
def bzI (x : Int32) : Option Int32 := if x = 0 ∨ x = 1 then some x else none
def cpI (σ : HS) (a n b m : Nat) (c : Int32) : Option HS := if ¬ c < 0 ∧ c.toNatClampNeg ≤ n ∧ c.toNatClampNeg ≤ m then some (sA σ b (va_cpy (σ.1 a) (σ.1 b) 0 0 c.toNatClampNeg)) else none
def FU : Nat := 1000000000000000
theorem inR_in {i : Int32} {n : Nat} (h : inR i n = true) : vp_in i n := by
  rw [vp_in_iff]
  simpa [inR] using h
theorem ldI_s {f : Nat → Int32} {n : Nat} {i v : Int32} (h : ldI f n i = some v) : vp_in i n ∧ f i.toNatClampNeg = v := by
  unfold ldI at h
  split at h
  · exact ⟨inR_in (by assumption), Option.some.inj h⟩
  · cases h
theorem ldJ_s {f : Nat → Int64} {n : Nat} {i : Int32} {v : Int64} (h : ldJ f n i = some v) : vp_in i n ∧ f i.toNatClampNeg = v := by
  unfold ldJ at h
  split at h
  · exact ⟨inR_in (by assumption), Option.some.inj h⟩
  · cases h
theorem ldR_s {n : Nat} {i : Int32} {v : Nat} (h : ldR n i = some v) : vp_in i n ∧ i.toNatClampNeg = v ∧ v < n := by
  unfold ldR at h
  split at h
  · rename_i c
    have c := inR_in c
    have e := Option.some.inj h
    exact ⟨c, e, by rw [← e]; exact Nat.not_le.mp fun q => c (Or.inr q)⟩
  · cases h
theorem stI_s {σ σ' : HS} {o n : Nat} {i x : Int32} (h : stI σ o n i x = some σ') : vp_in i n ∧ sI σ o i.toNatClampNeg x = σ' := by
  unfold stI at h
  split at h
  · exact ⟨inR_in (by assumption), Option.some.inj h⟩
  · cases h
theorem stJ_s {σ σ' : HS} {o n : Nat} {i : Int32} {x : Int64} (h : stJ σ o n i x = some σ') : vp_in i n ∧ sL σ o i.toNatClampNeg x = σ' := by
  unfold stJ at h
  split at h
  · exact ⟨inR_in (by assumption), Option.some.inj h⟩
  · cases h
theorem dvI_s {x y v : Int32} (h : dvI x y = some v) : ¬ y = 0 ∧ x / y = v := by
  unfold dvI at h
  split at h
  · cases h
  · exact ⟨by assumption, Option.some.inj h⟩
theorem rmI_s {x y v : Int32} (h : rmI x y = some v) : ¬ y = 0 ∧ x - x / y * y = v := by
  unfold rmI at h
  split at h
  · cases h
  · exact ⟨by assumption, Option.some.inj h⟩
theorem bzI_s {x v : Int32} (h : bzI x = some v) : x = v ∧ narrow .boolean (.int x) = .int x ∧ fits .boolean (.int x) = true := by
  unfold bzI at h
  split at h
  · rename_i c
    refine ⟨Option.some.inj h, ?_⟩
    rcases c with rfl | rfl
    · exact ⟨narrow_b0, rfl⟩
    · exact ⟨narrow_b1, rfl⟩
  · cases h
theorem cpI_s {σ σ' : HS} {a n b m : Nat} {c : Int32} (h : cpI σ a n b m c = some σ') : (¬ c < 0 ∧ c.toNatClampNeg ≤ n ∧ c.toNatClampNeg ≤ m) ∧ sA σ b (va_cpy (σ.1 a) (σ.1 b) 0 0 c.toNatClampNeg) = σ' := by
  unfold cpI at h
  split at h
  · exact ⟨by assumption, Option.some.inj h⟩
  · cases h
theorem hs_bind {α β : Type} {a : Option α} {f : α → Option β} {r : β} (h : a.bind f = some r) : ∃ x, a = some x ∧ f x = some r := by
  cases a with
  | none => cases h
  | some x => exact ⟨x, rfl, h⟩
theorem hs_it {α : Type} {c : Prop} {dc : Decidable c} {a b r : α} (hc : c) (h : (@ite α c dc a b) = r) : a = r := by rw [if_pos hc] at h; exact h
theorem hs_ie {α : Type} {c : Prop} {dc : Decidable c} {a b r : α} (hc : ¬ c) (h : (@ite α c dc a b) = r) : b = r := by rw [if_neg hc] at h; exact h
/-- fewer locals known -/
def hs_le : List (Option Value) → List (Option Value) → Prop
  | [], _ => True
  | _ :: _, [] => False
  | none :: r, _ :: t => hs_le r t
  | some v :: r, b :: t => b = some v ∧ hs_le r t
theorem hs_le_at : ∀ (a b : List (Option Value)), hs_le a b → ∀ (i : Nat) (v : Value), a[i]? = some (some v) → b[i]? = some (some v) := by
  intro a
  induction a with
  | nil => intro b _ i v h; simp at h
  | cons x r ih =>
    intro b hb i v h
    cases b with
    | nil => cases x <;> exact hb.elim
    | cons y t =>
      cases i with
      | zero =>
        cases x with
        | none => simp at h
        | some w =>
          simp at h
          subst h
          simp [hb.1]
      | succ i =>
        cases x with
        | none => simpa using ih t hb i v (by simpa using h)
        | some w => simpa using ih t hb.2 i v (by simpa using h)
theorem hs_cut {P Q : Prop} (h : P) (k : P → Q) : Q := k h
theorem hs_sw (x : Int32) (lo hi : Int) : x.toInt < lo ∨ hi < x.toInt ∨ (lo ≤ x.toInt ∧ x.toInt ≤ hi) := by omega
theorem hs_ni {x y : Int32} (h : ¬ x = y) : ¬ x.toInt = y.toInt := fun e => h (Int32.toInt_inj.mp e)
theorem hs_nl {x y : Int32} {z : Int} (h : ¬ x = y) (e : y.toInt = z) : ¬ x.toInt = z := fun q => h (Int32.toInt_inj.mp (q.trans e.symm))
section PWe
variable {own : String} {cc : ByteArray} {nL : Nat} {Z : HZ} {pc pc' : Nat} {ls ls' : List (Option Value)} {st rest : List Value} {σ σ' : HS} {d D : Nat} {ret : Option FieldType} {rs : Option Value × HS}
theorem pw_le (k : PW own cc nL Z pc ls' st σ) (h : hs_le ls' ls) : PW own cc nL Z pc ls st σ := pw_drop (hs_le_at _ _ h) k
theorem pw_iret' {x : Int32} {p : Int32 × HS} (hd : Dc cc pc .ireturn 1 pc') (h : some (x, σ) = some p) : PW own cc nL (hs_zM d (some .int) (some (.int p.1), p.2)) pc ls [.int x] σ := by
  cases h; exact pw_iret hd
theorem pw_zret' {x : Int32} {p : Int32 × HS} (hd : Dc cc pc .ireturn 1 pc') (hn : narrow .boolean (.int x) = .int x) (h : some (x, σ) = some p) : PW own cc nL (hs_zM d (some .boolean) (some (.int p.1), p.2)) pc ls [.int x] σ := by
  cases h; exact pw_zret hd hn
theorem pw_lret' {x : Int64} {p : Int64 × HS} (hd : Dc cc pc .lreturn 1 pc') (h : some (x, σ) = some p) : PW own cc nL (hs_zM d (some .long) (some (.long p.1), p.2)) pc ls [.long x] σ := by
  cases h; exact pw_lret hd
theorem pw_vret' (hd : Dc cc pc .return_ 1 pc') (h : some σ = some σ') : PW own cc nL (hs_zM d none (none, σ')) pc ls [] σ := by
  cases h; exact pw_vret hd
theorem pw_bret' {x z : Int32} {p : Int32 × HS} (hd : Dc cc pc .ireturn 1 pc') (g : bzI x = some z) (h : some (z, σ) = some p) : PW own cc nL (hs_zM d (some .boolean) (some (.int p.1), p.2)) pc ls [.int x] σ := by
  obtain ⟨rfl, h1, -⟩ := bzI_s g
  exact pw_zret' hd h1 h
theorem pw_iald' {o n : Nat} {i v : Int32} (hd : Dc cc pc .iaload 1 pc') (ho : hs_AI o n) (g : ldI (σ.1 o) n i = some v) (k : PW own cc nL Z pc' ls (.int v :: st) σ) : PW own cc nL Z pc ls (.int i :: .ref o :: st) σ := by
  obtain ⟨h1, h2⟩ := ldI_s g
  exact pw_iald hd ho h1 (by rw [h2]; exact k)
theorem pw_lald' {o n : Nat} {i : Int32} {v : Int64} (hd : Dc cc pc .laload 1 pc') (ho : hs_AL o n) (g : ldJ (σ.2 o) n i = some v) (k : PW own cc nL Z pc' ls (.long v :: st) σ) : PW own cc nL Z pc ls (.int i :: .ref o :: st) σ := by
  obtain ⟨h1, h2⟩ := ldJ_s g
  exact pw_lald hd ho h1 (by rw [h2]; exact k)
theorem pw_aald' {o n v : Nat} {i : Int32} (hd : Dc cc pc .aaload 1 pc') (ho : hs_AR o n) (g : ldR n i = some v) (k : PW own cc nL Z pc' ls (.ref (13 + 5 * v) :: st) σ) : PW own cc nL Z pc ls (.int i :: .ref o :: st) σ := by
  obtain ⟨h1, h2, -⟩ := ldR_s g
  exact pw_aald hd ho h1 (by rw [h2]; exact k)
theorem pw_iast' {o n : Nat} {i x : Int32} (hd : Dc cc pc .iastore 1 pc') (ho : hs_AI o n) (g : stI σ o n i x = some σ') (k : PW own cc nL Z pc' ls st σ') : PW own cc nL Z pc ls (.int x :: .int i :: .ref o :: st) σ := by
  obtain ⟨h1, h2⟩ := stI_s g
  exact pw_iast hd ho h1 (by rw [h2]; exact k)
theorem pw_last' {o n : Nat} {i : Int32} {x : Int64} (hd : Dc cc pc .lastore 1 pc') (ho : hs_AL o n) (g : stJ σ o n i x = some σ') (k : PW own cc nL Z pc' ls st σ') : PW own cc nL Z pc ls (.long x :: .int i :: .ref o :: st) σ := by
  obtain ⟨h1, h2⟩ := stJ_s g
  exact pw_last hd ho h1 (by rw [h2]; exact k)
theorem pw_idiv' {x y v : Int32} (hd : Dc cc pc .idiv 1 pc') (g : dvI x y = some v) (k : PW own cc nL Z pc' ls (.int v :: st) σ) : PW own cc nL Z pc ls (.int y :: .int x :: st) σ := by
  obtain ⟨h1, h2⟩ := dvI_s g
  exact pw_idiv hd h1 (by rw [h2]; exact k)
theorem pw_irem' {x y v : Int32} (hd : Dc cc pc .irem 1 pc') (g : rmI x y = some v) (k : PW own cc nL Z pc' ls (.int v :: st) σ) : PW own cc nL Z pc ls (.int y :: .int x :: st) σ := by
  obtain ⟨h1, h2⟩ := rmI_s g
  exact pw_irem hd h1 (by rw [h2]; exact k)
theorem hs_cpR (D : Nat) : 1 ≤ (hs_zM (D + 1) ret rs).1.frames ∧ 30 ≤ (hs_zM (D + 1) ret rs).1.locals := ⟨by show 1 ≤ D + 1; omega, by show 30 ≤ 64 * (D + 1); omega⟩
theorem pw_copy' {ix o0 o1 n0 n1 : Nat} {n : Int32} (hd : Dc cc pc (.invokestatic ix) 3 pc') (hm : Cond.methodLink own ix arraycopyName ∈ hs_tbl ∧ Cond.native arraycopyName ∈ hs_tbl ∧ Cond.static arraycopyName ∈ hs_tbl ∧ Cond.initialized "java/lang/System" ∈ hs_tbl) (h0 : hs_AI o0 n0) (h1 : hs_AI o1 n1) (g : cpI σ o0 n0 o1 n1 n = some σ')
    (hw : (st.map fun v => v.category).sum ≤ 8) (k : PW own cc nL (hs_zM (D + 1) ret rs) pc' ls st σ') : PW own cc nL (hs_zM (D + 1) ret rs) pc ls (.int n :: .int 0 :: .ref o1 :: .int 0 :: .ref o0 :: st) σ := by
  obtain ⟨c1, c2⟩ := cpI_s g
  exact pw_copy hd (hs_cpR D) hm h0 h1 c1 hw (by rw [c2]; exact k)
theorem hs_spec' {y : MethodName} {av : List Value} (hy : plainFor y = true) (hc : av.all (fun v => v.category == 1) = true) (hn : av.length ≤ nL)
    (h : PW y.cls cc nL (hs_zM d ret rs) 0 (av.map some ++ List.replicate (nL - av.length) none) [] σ) : hs_Spec d y cc nL ret av σ rs :=
  hs_spec hy (fun v hv => by simpa using List.all_eq_true.mp hc v hv) hn h
theorem hs_rmR (D : Nat) : D + 1 ≤ (hs_zM (D + 1) ret rs).1.frames ∧ 64 * D + 64 ≤ (hs_zM (D + 1) ret rs).1.locals ∧ (hs_zM (D + 1) ret rs).2.1 ≤ (hs_zM (D + 1) ret rs).1.cells ∧ (hs_zM (D + 1) ret rs).2.2.1 ≤ (hs_zM (D + 1) ret rs).1.slots := ⟨Nat.le_refl _, Nat.le_refl _, Nat.le_refl _, Nat.le_refl _⟩

theorem pw_mV0i {ix ci nL' o : Nat} {y : MethodName} {cc' : ByteArray} {ret' : Option FieldType} {tg : List Nat} {r : Int32} (hd : Dc cc pc (.invokevirtual ix) 3 pc') (hm : hs_MV own ix y cc' nL' ret' 0 ci) (ho : hs_OB o ci tg) (hs : hs_Spec D y cc' nL' ret' [.ref o] σ (some (.int r), σ')) (hw : (rest.map fun v => v.category).sum ≤ 8) (k : PW own cc nL (hs_zM (D + 1) ret rs) pc' ls (.int r :: rest) σ') : PW own cc nL (hs_zM (D + 1) ret rs) pc ls (.ref o :: rest) σ :=
  pw_callV (As := []) hd (hs_rmR D) hm ho rfl hs hs_isV_int hw k
theorem pw_mV0l {ix ci nL' o : Nat} {y : MethodName} {cc' : ByteArray} {ret' : Option FieldType} {tg : List Nat} {r : Int64} (hd : Dc cc pc (.invokevirtual ix) 3 pc') (hm : hs_MV own ix y cc' nL' ret' 0 ci) (ho : hs_OB o ci tg) (hs : hs_Spec D y cc' nL' ret' [.ref o] σ (some (.long r), σ')) (hw : (rest.map fun v => v.category).sum ≤ 8) (k : PW own cc nL (hs_zM (D + 1) ret rs) pc' ls (.long r :: rest) σ') : PW own cc nL (hs_zM (D + 1) ret rs) pc ls (.ref o :: rest) σ :=
  pw_callV (As := []) hd (hs_rmR D) hm ho rfl hs hs_isV_long hw k
theorem pw_mV0v {ix ci nL' o : Nat} {y : MethodName} {cc' : ByteArray} {ret' : Option FieldType} {tg : List Nat} (hd : Dc cc pc (.invokevirtual ix) 3 pc') (hm : hs_MV own ix y cc' nL' ret' 0 ci) (ho : hs_OB o ci tg) (hs : hs_Spec D y cc' nL' ret' [.ref o] σ (none, σ')) (hw : (rest.map fun v => v.category).sum ≤ 8) (k : PW own cc nL (hs_zM (D + 1) ret rs) pc' ls rest σ') : PW own cc nL (hs_zM (D + 1) ret rs) pc ls (.ref o :: rest) σ :=
  pw_callV (As := []) hd (hs_rmR D) hm ho rfl hs hs_isV_none hw k
theorem pw_mV1i {ix ci nL' o : Nat} {y : MethodName} {cc' : ByteArray} {ret' : Option FieldType} {tg : List Nat} {a0 : Value} {r : Int32} (hd : Dc cc pc (.invokevirtual ix) 3 pc') (hm : hs_MV own ix y cc' nL' ret' 1 ci) (ho : hs_OB o ci tg) (hs : hs_Spec D y cc' nL' ret' [.ref o, a0] σ (some (.int r), σ')) (hw : (rest.map fun v => v.category).sum ≤ 8) (k : PW own cc nL (hs_zM (D + 1) ret rs) pc' ls (.int r :: rest) σ') : PW own cc nL (hs_zM (D + 1) ret rs) pc ls (a0 :: .ref o :: rest) σ :=
  pw_callV (As := [a0]) hd (hs_rmR D) hm ho rfl hs hs_isV_int hw k
theorem pw_mS1i {ix nL' : Nat} {y : MethodName} {cc' : ByteArray} {ret' : Option FieldType} {a0 : Value} {r : Int32} (hd : Dc cc pc (.invokestatic ix) 3 pc') (hm : hs_MS own ix y cc' nL' ret' 1) (hs : hs_Spec D y cc' nL' ret' [a0] σ (some (.int r), σ')) (hw : (rest.map fun v => v.category).sum ≤ 8) (k : PW own cc nL (hs_zM (D + 1) ret rs) pc' ls (.int r :: rest) σ') : PW own cc nL (hs_zM (D + 1) ret rs) pc ls (a0 :: rest) σ :=
  pw_callS (As := [a0]) hd (hs_rmR D) hm rfl hs hs_isV_int hw k
theorem pw_mN1i {ix nL' : Nat} {y : MethodName} {host : String} {cc' : ByteArray} {ret' : Option FieldType} {a0 : Value} {r : Int32} (hd : Dc cc pc (.invokestatic ix) 3 pc') (hm : hs_MN own ix y host cc' nL' ret' 1) (hs : hs_Spec D y cc' nL' ret' [a0] σ (some (.int r), σ')) (hw : (rest.map fun v => v.category).sum ≤ 8) (k : PW own cc nL (hs_zM (D + 1) ret rs) pc' ls (.int r :: rest) σ') : PW own cc nL (hs_zM (D + 1) ret rs) pc ls (a0 :: rest) σ :=
  pw_callN (As := [a0]) hd (hs_rmR D) hm rfl hs hs_isV_int hw k
theorem pw_mV1l {ix ci nL' o : Nat} {y : MethodName} {cc' : ByteArray} {ret' : Option FieldType} {tg : List Nat} {a0 : Value} {r : Int64} (hd : Dc cc pc (.invokevirtual ix) 3 pc') (hm : hs_MV own ix y cc' nL' ret' 1 ci) (ho : hs_OB o ci tg) (hs : hs_Spec D y cc' nL' ret' [.ref o, a0] σ (some (.long r), σ')) (hw : (rest.map fun v => v.category).sum ≤ 8) (k : PW own cc nL (hs_zM (D + 1) ret rs) pc' ls (.long r :: rest) σ') : PW own cc nL (hs_zM (D + 1) ret rs) pc ls (a0 :: .ref o :: rest) σ :=
  pw_callV (As := [a0]) hd (hs_rmR D) hm ho rfl hs hs_isV_long hw k
theorem pw_mS1l {ix nL' : Nat} {y : MethodName} {cc' : ByteArray} {ret' : Option FieldType} {a0 : Value} {r : Int64} (hd : Dc cc pc (.invokestatic ix) 3 pc') (hm : hs_MS own ix y cc' nL' ret' 1) (hs : hs_Spec D y cc' nL' ret' [a0] σ (some (.long r), σ')) (hw : (rest.map fun v => v.category).sum ≤ 8) (k : PW own cc nL (hs_zM (D + 1) ret rs) pc' ls (.long r :: rest) σ') : PW own cc nL (hs_zM (D + 1) ret rs) pc ls (a0 :: rest) σ :=
  pw_callS (As := [a0]) hd (hs_rmR D) hm rfl hs hs_isV_long hw k
theorem pw_mN1l {ix nL' : Nat} {y : MethodName} {host : String} {cc' : ByteArray} {ret' : Option FieldType} {a0 : Value} {r : Int64} (hd : Dc cc pc (.invokestatic ix) 3 pc') (hm : hs_MN own ix y host cc' nL' ret' 1) (hs : hs_Spec D y cc' nL' ret' [a0] σ (some (.long r), σ')) (hw : (rest.map fun v => v.category).sum ≤ 8) (k : PW own cc nL (hs_zM (D + 1) ret rs) pc' ls (.long r :: rest) σ') : PW own cc nL (hs_zM (D + 1) ret rs) pc ls (a0 :: rest) σ :=
  pw_callN (As := [a0]) hd (hs_rmR D) hm rfl hs hs_isV_long hw k
theorem pw_mV1v {ix ci nL' o : Nat} {y : MethodName} {cc' : ByteArray} {ret' : Option FieldType} {tg : List Nat} {a0 : Value} (hd : Dc cc pc (.invokevirtual ix) 3 pc') (hm : hs_MV own ix y cc' nL' ret' 1 ci) (ho : hs_OB o ci tg) (hs : hs_Spec D y cc' nL' ret' [.ref o, a0] σ (none, σ')) (hw : (rest.map fun v => v.category).sum ≤ 8) (k : PW own cc nL (hs_zM (D + 1) ret rs) pc' ls rest σ') : PW own cc nL (hs_zM (D + 1) ret rs) pc ls (a0 :: .ref o :: rest) σ :=
  pw_callV (As := [a0]) hd (hs_rmR D) hm ho rfl hs hs_isV_none hw k
theorem pw_mS1v {ix nL' : Nat} {y : MethodName} {cc' : ByteArray} {ret' : Option FieldType} {a0 : Value} (hd : Dc cc pc (.invokestatic ix) 3 pc') (hm : hs_MS own ix y cc' nL' ret' 1) (hs : hs_Spec D y cc' nL' ret' [a0] σ (none, σ')) (hw : (rest.map fun v => v.category).sum ≤ 8) (k : PW own cc nL (hs_zM (D + 1) ret rs) pc' ls rest σ') : PW own cc nL (hs_zM (D + 1) ret rs) pc ls (a0 :: rest) σ :=
  pw_callS (As := [a0]) hd (hs_rmR D) hm rfl hs hs_isV_none hw k
theorem pw_mN1v {ix nL' : Nat} {y : MethodName} {host : String} {cc' : ByteArray} {ret' : Option FieldType} {a0 : Value} (hd : Dc cc pc (.invokestatic ix) 3 pc') (hm : hs_MN own ix y host cc' nL' ret' 1) (hs : hs_Spec D y cc' nL' ret' [a0] σ (none, σ')) (hw : (rest.map fun v => v.category).sum ≤ 8) (k : PW own cc nL (hs_zM (D + 1) ret rs) pc' ls rest σ') : PW own cc nL (hs_zM (D + 1) ret rs) pc ls (a0 :: rest) σ :=
  pw_callN (As := [a0]) hd (hs_rmR D) hm rfl hs hs_isV_none hw k
theorem pw_mV2i {ix ci nL' o : Nat} {y : MethodName} {cc' : ByteArray} {ret' : Option FieldType} {tg : List Nat} {a0 a1 : Value} {r : Int32} (hd : Dc cc pc (.invokevirtual ix) 3 pc') (hm : hs_MV own ix y cc' nL' ret' 2 ci) (ho : hs_OB o ci tg) (hs : hs_Spec D y cc' nL' ret' [.ref o, a0, a1] σ (some (.int r), σ')) (hw : (rest.map fun v => v.category).sum ≤ 8) (k : PW own cc nL (hs_zM (D + 1) ret rs) pc' ls (.int r :: rest) σ') : PW own cc nL (hs_zM (D + 1) ret rs) pc ls (a1 :: a0 :: .ref o :: rest) σ :=
  pw_callV (As := [a0, a1]) hd (hs_rmR D) hm ho rfl hs hs_isV_int hw k
theorem pw_mS2i {ix nL' : Nat} {y : MethodName} {cc' : ByteArray} {ret' : Option FieldType} {a0 a1 : Value} {r : Int32} (hd : Dc cc pc (.invokestatic ix) 3 pc') (hm : hs_MS own ix y cc' nL' ret' 2) (hs : hs_Spec D y cc' nL' ret' [a0, a1] σ (some (.int r), σ')) (hw : (rest.map fun v => v.category).sum ≤ 8) (k : PW own cc nL (hs_zM (D + 1) ret rs) pc' ls (.int r :: rest) σ') : PW own cc nL (hs_zM (D + 1) ret rs) pc ls (a1 :: a0 :: rest) σ :=
  pw_callS (As := [a0, a1]) hd (hs_rmR D) hm rfl hs hs_isV_int hw k
theorem pw_mN2i {ix nL' : Nat} {y : MethodName} {host : String} {cc' : ByteArray} {ret' : Option FieldType} {a0 a1 : Value} {r : Int32} (hd : Dc cc pc (.invokestatic ix) 3 pc') (hm : hs_MN own ix y host cc' nL' ret' 2) (hs : hs_Spec D y cc' nL' ret' [a0, a1] σ (some (.int r), σ')) (hw : (rest.map fun v => v.category).sum ≤ 8) (k : PW own cc nL (hs_zM (D + 1) ret rs) pc' ls (.int r :: rest) σ') : PW own cc nL (hs_zM (D + 1) ret rs) pc ls (a1 :: a0 :: rest) σ :=
  pw_callN (As := [a0, a1]) hd (hs_rmR D) hm rfl hs hs_isV_int hw k
theorem pw_mV2l {ix ci nL' o : Nat} {y : MethodName} {cc' : ByteArray} {ret' : Option FieldType} {tg : List Nat} {a0 a1 : Value} {r : Int64} (hd : Dc cc pc (.invokevirtual ix) 3 pc') (hm : hs_MV own ix y cc' nL' ret' 2 ci) (ho : hs_OB o ci tg) (hs : hs_Spec D y cc' nL' ret' [.ref o, a0, a1] σ (some (.long r), σ')) (hw : (rest.map fun v => v.category).sum ≤ 8) (k : PW own cc nL (hs_zM (D + 1) ret rs) pc' ls (.long r :: rest) σ') : PW own cc nL (hs_zM (D + 1) ret rs) pc ls (a1 :: a0 :: .ref o :: rest) σ :=
  pw_callV (As := [a0, a1]) hd (hs_rmR D) hm ho rfl hs hs_isV_long hw k
theorem pw_mS2l {ix nL' : Nat} {y : MethodName} {cc' : ByteArray} {ret' : Option FieldType} {a0 a1 : Value} {r : Int64} (hd : Dc cc pc (.invokestatic ix) 3 pc') (hm : hs_MS own ix y cc' nL' ret' 2) (hs : hs_Spec D y cc' nL' ret' [a0, a1] σ (some (.long r), σ')) (hw : (rest.map fun v => v.category).sum ≤ 8) (k : PW own cc nL (hs_zM (D + 1) ret rs) pc' ls (.long r :: rest) σ') : PW own cc nL (hs_zM (D + 1) ret rs) pc ls (a1 :: a0 :: rest) σ :=
  pw_callS (As := [a0, a1]) hd (hs_rmR D) hm rfl hs hs_isV_long hw k
theorem pw_mN2l {ix nL' : Nat} {y : MethodName} {host : String} {cc' : ByteArray} {ret' : Option FieldType} {a0 a1 : Value} {r : Int64} (hd : Dc cc pc (.invokestatic ix) 3 pc') (hm : hs_MN own ix y host cc' nL' ret' 2) (hs : hs_Spec D y cc' nL' ret' [a0, a1] σ (some (.long r), σ')) (hw : (rest.map fun v => v.category).sum ≤ 8) (k : PW own cc nL (hs_zM (D + 1) ret rs) pc' ls (.long r :: rest) σ') : PW own cc nL (hs_zM (D + 1) ret rs) pc ls (a1 :: a0 :: rest) σ :=
  pw_callN (As := [a0, a1]) hd (hs_rmR D) hm rfl hs hs_isV_long hw k
theorem pw_mV2v {ix ci nL' o : Nat} {y : MethodName} {cc' : ByteArray} {ret' : Option FieldType} {tg : List Nat} {a0 a1 : Value} (hd : Dc cc pc (.invokevirtual ix) 3 pc') (hm : hs_MV own ix y cc' nL' ret' 2 ci) (ho : hs_OB o ci tg) (hs : hs_Spec D y cc' nL' ret' [.ref o, a0, a1] σ (none, σ')) (hw : (rest.map fun v => v.category).sum ≤ 8) (k : PW own cc nL (hs_zM (D + 1) ret rs) pc' ls rest σ') : PW own cc nL (hs_zM (D + 1) ret rs) pc ls (a1 :: a0 :: .ref o :: rest) σ :=
  pw_callV (As := [a0, a1]) hd (hs_rmR D) hm ho rfl hs hs_isV_none hw k
theorem pw_mS2v {ix nL' : Nat} {y : MethodName} {cc' : ByteArray} {ret' : Option FieldType} {a0 a1 : Value} (hd : Dc cc pc (.invokestatic ix) 3 pc') (hm : hs_MS own ix y cc' nL' ret' 2) (hs : hs_Spec D y cc' nL' ret' [a0, a1] σ (none, σ')) (hw : (rest.map fun v => v.category).sum ≤ 8) (k : PW own cc nL (hs_zM (D + 1) ret rs) pc' ls rest σ') : PW own cc nL (hs_zM (D + 1) ret rs) pc ls (a1 :: a0 :: rest) σ :=
  pw_callS (As := [a0, a1]) hd (hs_rmR D) hm rfl hs hs_isV_none hw k
theorem pw_mN2v {ix nL' : Nat} {y : MethodName} {host : String} {cc' : ByteArray} {ret' : Option FieldType} {a0 a1 : Value} (hd : Dc cc pc (.invokestatic ix) 3 pc') (hm : hs_MN own ix y host cc' nL' ret' 2) (hs : hs_Spec D y cc' nL' ret' [a0, a1] σ (none, σ')) (hw : (rest.map fun v => v.category).sum ≤ 8) (k : PW own cc nL (hs_zM (D + 1) ret rs) pc' ls rest σ') : PW own cc nL (hs_zM (D + 1) ret rs) pc ls (a1 :: a0 :: rest) σ :=
  pw_callN (As := [a0, a1]) hd (hs_rmR D) hm rfl hs hs_isV_none hw k
theorem pw_mV3i {ix ci nL' o : Nat} {y : MethodName} {cc' : ByteArray} {ret' : Option FieldType} {tg : List Nat} {a0 a1 a2 : Value} {r : Int32} (hd : Dc cc pc (.invokevirtual ix) 3 pc') (hm : hs_MV own ix y cc' nL' ret' 3 ci) (ho : hs_OB o ci tg) (hs : hs_Spec D y cc' nL' ret' [.ref o, a0, a1, a2] σ (some (.int r), σ')) (hw : (rest.map fun v => v.category).sum ≤ 8) (k : PW own cc nL (hs_zM (D + 1) ret rs) pc' ls (.int r :: rest) σ') : PW own cc nL (hs_zM (D + 1) ret rs) pc ls (a2 :: a1 :: a0 :: .ref o :: rest) σ :=
  pw_callV (As := [a0, a1, a2]) hd (hs_rmR D) hm ho rfl hs hs_isV_int hw k
theorem pw_mS3i {ix nL' : Nat} {y : MethodName} {cc' : ByteArray} {ret' : Option FieldType} {a0 a1 a2 : Value} {r : Int32} (hd : Dc cc pc (.invokestatic ix) 3 pc') (hm : hs_MS own ix y cc' nL' ret' 3) (hs : hs_Spec D y cc' nL' ret' [a0, a1, a2] σ (some (.int r), σ')) (hw : (rest.map fun v => v.category).sum ≤ 8) (k : PW own cc nL (hs_zM (D + 1) ret rs) pc' ls (.int r :: rest) σ') : PW own cc nL (hs_zM (D + 1) ret rs) pc ls (a2 :: a1 :: a0 :: rest) σ :=
  pw_callS (As := [a0, a1, a2]) hd (hs_rmR D) hm rfl hs hs_isV_int hw k
theorem pw_mN3i {ix nL' : Nat} {y : MethodName} {host : String} {cc' : ByteArray} {ret' : Option FieldType} {a0 a1 a2 : Value} {r : Int32} (hd : Dc cc pc (.invokestatic ix) 3 pc') (hm : hs_MN own ix y host cc' nL' ret' 3) (hs : hs_Spec D y cc' nL' ret' [a0, a1, a2] σ (some (.int r), σ')) (hw : (rest.map fun v => v.category).sum ≤ 8) (k : PW own cc nL (hs_zM (D + 1) ret rs) pc' ls (.int r :: rest) σ') : PW own cc nL (hs_zM (D + 1) ret rs) pc ls (a2 :: a1 :: a0 :: rest) σ :=
  pw_callN (As := [a0, a1, a2]) hd (hs_rmR D) hm rfl hs hs_isV_int hw k
theorem pw_mV3l {ix ci nL' o : Nat} {y : MethodName} {cc' : ByteArray} {ret' : Option FieldType} {tg : List Nat} {a0 a1 a2 : Value} {r : Int64} (hd : Dc cc pc (.invokevirtual ix) 3 pc') (hm : hs_MV own ix y cc' nL' ret' 3 ci) (ho : hs_OB o ci tg) (hs : hs_Spec D y cc' nL' ret' [.ref o, a0, a1, a2] σ (some (.long r), σ')) (hw : (rest.map fun v => v.category).sum ≤ 8) (k : PW own cc nL (hs_zM (D + 1) ret rs) pc' ls (.long r :: rest) σ') : PW own cc nL (hs_zM (D + 1) ret rs) pc ls (a2 :: a1 :: a0 :: .ref o :: rest) σ :=
  pw_callV (As := [a0, a1, a2]) hd (hs_rmR D) hm ho rfl hs hs_isV_long hw k
theorem pw_mS3l {ix nL' : Nat} {y : MethodName} {cc' : ByteArray} {ret' : Option FieldType} {a0 a1 a2 : Value} {r : Int64} (hd : Dc cc pc (.invokestatic ix) 3 pc') (hm : hs_MS own ix y cc' nL' ret' 3) (hs : hs_Spec D y cc' nL' ret' [a0, a1, a2] σ (some (.long r), σ')) (hw : (rest.map fun v => v.category).sum ≤ 8) (k : PW own cc nL (hs_zM (D + 1) ret rs) pc' ls (.long r :: rest) σ') : PW own cc nL (hs_zM (D + 1) ret rs) pc ls (a2 :: a1 :: a0 :: rest) σ :=
  pw_callS (As := [a0, a1, a2]) hd (hs_rmR D) hm rfl hs hs_isV_long hw k
theorem pw_mN3l {ix nL' : Nat} {y : MethodName} {host : String} {cc' : ByteArray} {ret' : Option FieldType} {a0 a1 a2 : Value} {r : Int64} (hd : Dc cc pc (.invokestatic ix) 3 pc') (hm : hs_MN own ix y host cc' nL' ret' 3) (hs : hs_Spec D y cc' nL' ret' [a0, a1, a2] σ (some (.long r), σ')) (hw : (rest.map fun v => v.category).sum ≤ 8) (k : PW own cc nL (hs_zM (D + 1) ret rs) pc' ls (.long r :: rest) σ') : PW own cc nL (hs_zM (D + 1) ret rs) pc ls (a2 :: a1 :: a0 :: rest) σ :=
  pw_callN (As := [a0, a1, a2]) hd (hs_rmR D) hm rfl hs hs_isV_long hw k
theorem pw_mV3v {ix ci nL' o : Nat} {y : MethodName} {cc' : ByteArray} {ret' : Option FieldType} {tg : List Nat} {a0 a1 a2 : Value} (hd : Dc cc pc (.invokevirtual ix) 3 pc') (hm : hs_MV own ix y cc' nL' ret' 3 ci) (ho : hs_OB o ci tg) (hs : hs_Spec D y cc' nL' ret' [.ref o, a0, a1, a2] σ (none, σ')) (hw : (rest.map fun v => v.category).sum ≤ 8) (k : PW own cc nL (hs_zM (D + 1) ret rs) pc' ls rest σ') : PW own cc nL (hs_zM (D + 1) ret rs) pc ls (a2 :: a1 :: a0 :: .ref o :: rest) σ :=
  pw_callV (As := [a0, a1, a2]) hd (hs_rmR D) hm ho rfl hs hs_isV_none hw k
theorem pw_mS3v {ix nL' : Nat} {y : MethodName} {cc' : ByteArray} {ret' : Option FieldType} {a0 a1 a2 : Value} (hd : Dc cc pc (.invokestatic ix) 3 pc') (hm : hs_MS own ix y cc' nL' ret' 3) (hs : hs_Spec D y cc' nL' ret' [a0, a1, a2] σ (none, σ')) (hw : (rest.map fun v => v.category).sum ≤ 8) (k : PW own cc nL (hs_zM (D + 1) ret rs) pc' ls rest σ') : PW own cc nL (hs_zM (D + 1) ret rs) pc ls (a2 :: a1 :: a0 :: rest) σ :=
  pw_callS (As := [a0, a1, a2]) hd (hs_rmR D) hm rfl hs hs_isV_none hw k
theorem pw_mN3v {ix nL' : Nat} {y : MethodName} {host : String} {cc' : ByteArray} {ret' : Option FieldType} {a0 a1 a2 : Value} (hd : Dc cc pc (.invokestatic ix) 3 pc') (hm : hs_MN own ix y host cc' nL' ret' 3) (hs : hs_Spec D y cc' nL' ret' [a0, a1, a2] σ (none, σ')) (hw : (rest.map fun v => v.category).sum ≤ 8) (k : PW own cc nL (hs_zM (D + 1) ret rs) pc' ls rest σ') : PW own cc nL (hs_zM (D + 1) ret rs) pc ls (a2 :: a1 :: a0 :: rest) σ :=
  pw_callN (As := [a0, a1, a2]) hd (hs_rmR D) hm rfl hs hs_isV_none hw k
theorem pw_mV4i {ix ci nL' o : Nat} {y : MethodName} {cc' : ByteArray} {ret' : Option FieldType} {tg : List Nat} {a0 a1 a2 a3 : Value} {r : Int32} (hd : Dc cc pc (.invokevirtual ix) 3 pc') (hm : hs_MV own ix y cc' nL' ret' 4 ci) (ho : hs_OB o ci tg) (hs : hs_Spec D y cc' nL' ret' [.ref o, a0, a1, a2, a3] σ (some (.int r), σ')) (hw : (rest.map fun v => v.category).sum ≤ 8) (k : PW own cc nL (hs_zM (D + 1) ret rs) pc' ls (.int r :: rest) σ') : PW own cc nL (hs_zM (D + 1) ret rs) pc ls (a3 :: a2 :: a1 :: a0 :: .ref o :: rest) σ :=
  pw_callV (As := [a0, a1, a2, a3]) hd (hs_rmR D) hm ho rfl hs hs_isV_int hw k
theorem pw_mS4i {ix nL' : Nat} {y : MethodName} {cc' : ByteArray} {ret' : Option FieldType} {a0 a1 a2 a3 : Value} {r : Int32} (hd : Dc cc pc (.invokestatic ix) 3 pc') (hm : hs_MS own ix y cc' nL' ret' 4) (hs : hs_Spec D y cc' nL' ret' [a0, a1, a2, a3] σ (some (.int r), σ')) (hw : (rest.map fun v => v.category).sum ≤ 8) (k : PW own cc nL (hs_zM (D + 1) ret rs) pc' ls (.int r :: rest) σ') : PW own cc nL (hs_zM (D + 1) ret rs) pc ls (a3 :: a2 :: a1 :: a0 :: rest) σ :=
  pw_callS (As := [a0, a1, a2, a3]) hd (hs_rmR D) hm rfl hs hs_isV_int hw k
theorem pw_mN4i {ix nL' : Nat} {y : MethodName} {host : String} {cc' : ByteArray} {ret' : Option FieldType} {a0 a1 a2 a3 : Value} {r : Int32} (hd : Dc cc pc (.invokestatic ix) 3 pc') (hm : hs_MN own ix y host cc' nL' ret' 4) (hs : hs_Spec D y cc' nL' ret' [a0, a1, a2, a3] σ (some (.int r), σ')) (hw : (rest.map fun v => v.category).sum ≤ 8) (k : PW own cc nL (hs_zM (D + 1) ret rs) pc' ls (.int r :: rest) σ') : PW own cc nL (hs_zM (D + 1) ret rs) pc ls (a3 :: a2 :: a1 :: a0 :: rest) σ :=
  pw_callN (As := [a0, a1, a2, a3]) hd (hs_rmR D) hm rfl hs hs_isV_int hw k
theorem pw_mV4l {ix ci nL' o : Nat} {y : MethodName} {cc' : ByteArray} {ret' : Option FieldType} {tg : List Nat} {a0 a1 a2 a3 : Value} {r : Int64} (hd : Dc cc pc (.invokevirtual ix) 3 pc') (hm : hs_MV own ix y cc' nL' ret' 4 ci) (ho : hs_OB o ci tg) (hs : hs_Spec D y cc' nL' ret' [.ref o, a0, a1, a2, a3] σ (some (.long r), σ')) (hw : (rest.map fun v => v.category).sum ≤ 8) (k : PW own cc nL (hs_zM (D + 1) ret rs) pc' ls (.long r :: rest) σ') : PW own cc nL (hs_zM (D + 1) ret rs) pc ls (a3 :: a2 :: a1 :: a0 :: .ref o :: rest) σ :=
  pw_callV (As := [a0, a1, a2, a3]) hd (hs_rmR D) hm ho rfl hs hs_isV_long hw k
theorem pw_mS4l {ix nL' : Nat} {y : MethodName} {cc' : ByteArray} {ret' : Option FieldType} {a0 a1 a2 a3 : Value} {r : Int64} (hd : Dc cc pc (.invokestatic ix) 3 pc') (hm : hs_MS own ix y cc' nL' ret' 4) (hs : hs_Spec D y cc' nL' ret' [a0, a1, a2, a3] σ (some (.long r), σ')) (hw : (rest.map fun v => v.category).sum ≤ 8) (k : PW own cc nL (hs_zM (D + 1) ret rs) pc' ls (.long r :: rest) σ') : PW own cc nL (hs_zM (D + 1) ret rs) pc ls (a3 :: a2 :: a1 :: a0 :: rest) σ :=
  pw_callS (As := [a0, a1, a2, a3]) hd (hs_rmR D) hm rfl hs hs_isV_long hw k
theorem pw_mN4l {ix nL' : Nat} {y : MethodName} {host : String} {cc' : ByteArray} {ret' : Option FieldType} {a0 a1 a2 a3 : Value} {r : Int64} (hd : Dc cc pc (.invokestatic ix) 3 pc') (hm : hs_MN own ix y host cc' nL' ret' 4) (hs : hs_Spec D y cc' nL' ret' [a0, a1, a2, a3] σ (some (.long r), σ')) (hw : (rest.map fun v => v.category).sum ≤ 8) (k : PW own cc nL (hs_zM (D + 1) ret rs) pc' ls (.long r :: rest) σ') : PW own cc nL (hs_zM (D + 1) ret rs) pc ls (a3 :: a2 :: a1 :: a0 :: rest) σ :=
  pw_callN (As := [a0, a1, a2, a3]) hd (hs_rmR D) hm rfl hs hs_isV_long hw k
theorem pw_mV4v {ix ci nL' o : Nat} {y : MethodName} {cc' : ByteArray} {ret' : Option FieldType} {tg : List Nat} {a0 a1 a2 a3 : Value} (hd : Dc cc pc (.invokevirtual ix) 3 pc') (hm : hs_MV own ix y cc' nL' ret' 4 ci) (ho : hs_OB o ci tg) (hs : hs_Spec D y cc' nL' ret' [.ref o, a0, a1, a2, a3] σ (none, σ')) (hw : (rest.map fun v => v.category).sum ≤ 8) (k : PW own cc nL (hs_zM (D + 1) ret rs) pc' ls rest σ') : PW own cc nL (hs_zM (D + 1) ret rs) pc ls (a3 :: a2 :: a1 :: a0 :: .ref o :: rest) σ :=
  pw_callV (As := [a0, a1, a2, a3]) hd (hs_rmR D) hm ho rfl hs hs_isV_none hw k
theorem pw_mS4v {ix nL' : Nat} {y : MethodName} {cc' : ByteArray} {ret' : Option FieldType} {a0 a1 a2 a3 : Value} (hd : Dc cc pc (.invokestatic ix) 3 pc') (hm : hs_MS own ix y cc' nL' ret' 4) (hs : hs_Spec D y cc' nL' ret' [a0, a1, a2, a3] σ (none, σ')) (hw : (rest.map fun v => v.category).sum ≤ 8) (k : PW own cc nL (hs_zM (D + 1) ret rs) pc' ls rest σ') : PW own cc nL (hs_zM (D + 1) ret rs) pc ls (a3 :: a2 :: a1 :: a0 :: rest) σ :=
  pw_callS (As := [a0, a1, a2, a3]) hd (hs_rmR D) hm rfl hs hs_isV_none hw k
theorem pw_mN4v {ix nL' : Nat} {y : MethodName} {host : String} {cc' : ByteArray} {ret' : Option FieldType} {a0 a1 a2 a3 : Value} (hd : Dc cc pc (.invokestatic ix) 3 pc') (hm : hs_MN own ix y host cc' nL' ret' 4) (hs : hs_Spec D y cc' nL' ret' [a0, a1, a2, a3] σ (none, σ')) (hw : (rest.map fun v => v.category).sum ≤ 8) (k : PW own cc nL (hs_zM (D + 1) ret rs) pc' ls rest σ') : PW own cc nL (hs_zM (D + 1) ret rs) pc ls (a3 :: a2 :: a1 :: a0 :: rest) σ :=
  pw_callN (As := [a0, a1, a2, a3]) hd (hs_rmR D) hm rfl hs hs_isV_none hw k
theorem pw_mV5i {ix ci nL' o : Nat} {y : MethodName} {cc' : ByteArray} {ret' : Option FieldType} {tg : List Nat} {a0 a1 a2 a3 a4 : Value} {r : Int32} (hd : Dc cc pc (.invokevirtual ix) 3 pc') (hm : hs_MV own ix y cc' nL' ret' 5 ci) (ho : hs_OB o ci tg) (hs : hs_Spec D y cc' nL' ret' [.ref o, a0, a1, a2, a3, a4] σ (some (.int r), σ')) (hw : (rest.map fun v => v.category).sum ≤ 8) (k : PW own cc nL (hs_zM (D + 1) ret rs) pc' ls (.int r :: rest) σ') : PW own cc nL (hs_zM (D + 1) ret rs) pc ls (a4 :: a3 :: a2 :: a1 :: a0 :: .ref o :: rest) σ :=
  pw_callV (As := [a0, a1, a2, a3, a4]) hd (hs_rmR D) hm ho rfl hs hs_isV_int hw k
theorem pw_mS5i {ix nL' : Nat} {y : MethodName} {cc' : ByteArray} {ret' : Option FieldType} {a0 a1 a2 a3 a4 : Value} {r : Int32} (hd : Dc cc pc (.invokestatic ix) 3 pc') (hm : hs_MS own ix y cc' nL' ret' 5) (hs : hs_Spec D y cc' nL' ret' [a0, a1, a2, a3, a4] σ (some (.int r), σ')) (hw : (rest.map fun v => v.category).sum ≤ 8) (k : PW own cc nL (hs_zM (D + 1) ret rs) pc' ls (.int r :: rest) σ') : PW own cc nL (hs_zM (D + 1) ret rs) pc ls (a4 :: a3 :: a2 :: a1 :: a0 :: rest) σ :=
  pw_callS (As := [a0, a1, a2, a3, a4]) hd (hs_rmR D) hm rfl hs hs_isV_int hw k
theorem pw_mN5i {ix nL' : Nat} {y : MethodName} {host : String} {cc' : ByteArray} {ret' : Option FieldType} {a0 a1 a2 a3 a4 : Value} {r : Int32} (hd : Dc cc pc (.invokestatic ix) 3 pc') (hm : hs_MN own ix y host cc' nL' ret' 5) (hs : hs_Spec D y cc' nL' ret' [a0, a1, a2, a3, a4] σ (some (.int r), σ')) (hw : (rest.map fun v => v.category).sum ≤ 8) (k : PW own cc nL (hs_zM (D + 1) ret rs) pc' ls (.int r :: rest) σ') : PW own cc nL (hs_zM (D + 1) ret rs) pc ls (a4 :: a3 :: a2 :: a1 :: a0 :: rest) σ :=
  pw_callN (As := [a0, a1, a2, a3, a4]) hd (hs_rmR D) hm rfl hs hs_isV_int hw k
theorem pw_mV5l {ix ci nL' o : Nat} {y : MethodName} {cc' : ByteArray} {ret' : Option FieldType} {tg : List Nat} {a0 a1 a2 a3 a4 : Value} {r : Int64} (hd : Dc cc pc (.invokevirtual ix) 3 pc') (hm : hs_MV own ix y cc' nL' ret' 5 ci) (ho : hs_OB o ci tg) (hs : hs_Spec D y cc' nL' ret' [.ref o, a0, a1, a2, a3, a4] σ (some (.long r), σ')) (hw : (rest.map fun v => v.category).sum ≤ 8) (k : PW own cc nL (hs_zM (D + 1) ret rs) pc' ls (.long r :: rest) σ') : PW own cc nL (hs_zM (D + 1) ret rs) pc ls (a4 :: a3 :: a2 :: a1 :: a0 :: .ref o :: rest) σ :=
  pw_callV (As := [a0, a1, a2, a3, a4]) hd (hs_rmR D) hm ho rfl hs hs_isV_long hw k
theorem pw_mS5l {ix nL' : Nat} {y : MethodName} {cc' : ByteArray} {ret' : Option FieldType} {a0 a1 a2 a3 a4 : Value} {r : Int64} (hd : Dc cc pc (.invokestatic ix) 3 pc') (hm : hs_MS own ix y cc' nL' ret' 5) (hs : hs_Spec D y cc' nL' ret' [a0, a1, a2, a3, a4] σ (some (.long r), σ')) (hw : (rest.map fun v => v.category).sum ≤ 8) (k : PW own cc nL (hs_zM (D + 1) ret rs) pc' ls (.long r :: rest) σ') : PW own cc nL (hs_zM (D + 1) ret rs) pc ls (a4 :: a3 :: a2 :: a1 :: a0 :: rest) σ :=
  pw_callS (As := [a0, a1, a2, a3, a4]) hd (hs_rmR D) hm rfl hs hs_isV_long hw k
theorem pw_mN5l {ix nL' : Nat} {y : MethodName} {host : String} {cc' : ByteArray} {ret' : Option FieldType} {a0 a1 a2 a3 a4 : Value} {r : Int64} (hd : Dc cc pc (.invokestatic ix) 3 pc') (hm : hs_MN own ix y host cc' nL' ret' 5) (hs : hs_Spec D y cc' nL' ret' [a0, a1, a2, a3, a4] σ (some (.long r), σ')) (hw : (rest.map fun v => v.category).sum ≤ 8) (k : PW own cc nL (hs_zM (D + 1) ret rs) pc' ls (.long r :: rest) σ') : PW own cc nL (hs_zM (D + 1) ret rs) pc ls (a4 :: a3 :: a2 :: a1 :: a0 :: rest) σ :=
  pw_callN (As := [a0, a1, a2, a3, a4]) hd (hs_rmR D) hm rfl hs hs_isV_long hw k
theorem pw_mV5v {ix ci nL' o : Nat} {y : MethodName} {cc' : ByteArray} {ret' : Option FieldType} {tg : List Nat} {a0 a1 a2 a3 a4 : Value} (hd : Dc cc pc (.invokevirtual ix) 3 pc') (hm : hs_MV own ix y cc' nL' ret' 5 ci) (ho : hs_OB o ci tg) (hs : hs_Spec D y cc' nL' ret' [.ref o, a0, a1, a2, a3, a4] σ (none, σ')) (hw : (rest.map fun v => v.category).sum ≤ 8) (k : PW own cc nL (hs_zM (D + 1) ret rs) pc' ls rest σ') : PW own cc nL (hs_zM (D + 1) ret rs) pc ls (a4 :: a3 :: a2 :: a1 :: a0 :: .ref o :: rest) σ :=
  pw_callV (As := [a0, a1, a2, a3, a4]) hd (hs_rmR D) hm ho rfl hs hs_isV_none hw k
theorem pw_mS5v {ix nL' : Nat} {y : MethodName} {cc' : ByteArray} {ret' : Option FieldType} {a0 a1 a2 a3 a4 : Value} (hd : Dc cc pc (.invokestatic ix) 3 pc') (hm : hs_MS own ix y cc' nL' ret' 5) (hs : hs_Spec D y cc' nL' ret' [a0, a1, a2, a3, a4] σ (none, σ')) (hw : (rest.map fun v => v.category).sum ≤ 8) (k : PW own cc nL (hs_zM (D + 1) ret rs) pc' ls rest σ') : PW own cc nL (hs_zM (D + 1) ret rs) pc ls (a4 :: a3 :: a2 :: a1 :: a0 :: rest) σ :=
  pw_callS (As := [a0, a1, a2, a3, a4]) hd (hs_rmR D) hm rfl hs hs_isV_none hw k
theorem pw_mN5v {ix nL' : Nat} {y : MethodName} {host : String} {cc' : ByteArray} {ret' : Option FieldType} {a0 a1 a2 a3 a4 : Value} (hd : Dc cc pc (.invokestatic ix) 3 pc') (hm : hs_MN own ix y host cc' nL' ret' 5) (hs : hs_Spec D y cc' nL' ret' [a0, a1, a2, a3, a4] σ (none, σ')) (hw : (rest.map fun v => v.category).sum ≤ 8) (k : PW own cc nL (hs_zM (D + 1) ret rs) pc' ls rest σ') : PW own cc nL (hs_zM (D + 1) ret rs) pc ls (a4 :: a3 :: a2 :: a1 :: a0 :: rest) σ :=
  pw_callN (As := [a0, a1, a2, a3, a4]) hd (hs_rmR D) hm rfl hs hs_isV_none hw k
end PWe
theorem kb_m10 : (Int8.ofInt (-10)).toInt32 = ((-10) : Int32) := by decide +kernel
theorem kb_m5 : (Int8.ofInt (-5)).toInt32 = ((-5) : Int32) := by decide +kernel
theorem kb_m4 : (Int8.ofInt (-4)).toInt32 = ((-4) : Int32) := by decide +kernel
theorem kb_m3 : (Int8.ofInt (-3)).toInt32 = ((-3) : Int32) := by decide +kernel
theorem kb_m2 : (Int8.ofInt (-2)).toInt32 = ((-2) : Int32) := by decide +kernel
theorem kb_6 : (Int8.ofInt 6).toInt32 = (6 : Int32) := by decide +kernel
theorem kb_8 : (Int8.ofInt 8).toInt32 = (8 : Int32) := by decide +kernel
theorem kb_9 : (Int8.ofInt 9).toInt32 = (9 : Int32) := by decide +kernel
theorem kb_10 : (Int8.ofInt 10).toInt32 = (10 : Int32) := by decide +kernel
theorem kb_15 : (Int8.ofInt 15).toInt32 = (15 : Int32) := by decide +kernel
theorem kb_16 : (Int8.ofInt 16).toInt32 = (16 : Int32) := by decide +kernel
theorem kb_21 : (Int8.ofInt 21).toInt32 = (21 : Int32) := by decide +kernel
theorem kb_22 : (Int8.ofInt 22).toInt32 = (22 : Int32) := by decide +kernel
theorem kb_23 : (Int8.ofInt 23).toInt32 = (23 : Int32) := by decide +kernel
theorem kb_24 : (Int8.ofInt 24).toInt32 = (24 : Int32) := by decide +kernel
theorem kb_25 : (Int8.ofInt 25).toInt32 = (25 : Int32) := by decide +kernel
theorem kb_30 : (Int8.ofInt 30).toInt32 = (30 : Int32) := by decide +kernel
theorem kb_31 : (Int8.ofInt 31).toInt32 = (31 : Int32) := by decide +kernel
theorem kb_32 : (Int8.ofInt 32).toInt32 = (32 : Int32) := by decide +kernel
theorem kb_36 : (Int8.ofInt 36).toInt32 = (36 : Int32) := by decide +kernel
theorem kb_40 : (Int8.ofInt 40).toInt32 = (40 : Int32) := by decide +kernel
theorem kb_42 : (Int8.ofInt 42).toInt32 = (42 : Int32) := by decide +kernel
theorem kb_48 : (Int8.ofInt 48).toInt32 = (48 : Int32) := by decide +kernel
theorem kb_50 : (Int8.ofInt 50).toInt32 = (50 : Int32) := by decide +kernel
theorem kb_57 : (Int8.ofInt 57).toInt32 = (57 : Int32) := by decide +kernel
theorem kb_59 : (Int8.ofInt 59).toInt32 = (59 : Int32) := by decide +kernel
theorem kb_63 : (Int8.ofInt 63).toInt32 = (63 : Int32) := by decide +kernel
theorem kb_64 : (Int8.ofInt 64).toInt32 = (64 : Int32) := by decide +kernel
theorem kb_66 : (Int8.ofInt 66).toInt32 = (66 : Int32) := by decide +kernel
theorem kb_120 : (Int8.ofInt 120).toInt32 = (120 : Int32) := by decide +kernel
theorem kb_127 : (Int8.ofInt 127).toInt32 = (127 : Int32) := by decide +kernel
theorem ki_m1 : Int32.ofInt (-1) = ((-1) : Int32) := by decide +kernel
theorem ki_0 : Int32.ofInt 0 = (0 : Int32) := by decide +kernel
theorem ki_1 : Int32.ofInt 1 = (1 : Int32) := by decide +kernel
theorem ki_2 : Int32.ofInt 2 = (2 : Int32) := by decide +kernel
theorem ki_3 : Int32.ofInt 3 = (3 : Int32) := by decide +kernel
theorem ki_4 : Int32.ofInt 4 = (4 : Int32) := by decide +kernel
theorem ki_5 : Int32.ofInt 5 = (5 : Int32) := by decide +kernel
theorem ks_m1000 : (Int16.ofInt (-1000)).toInt32 = ((-1000) : Int32) := by decide +kernel
theorem ks_150 : (Int16.ofInt 150).toInt32 = (150 : Int32) := by decide +kernel
theorem ks_151 : (Int16.ofInt 151).toInt32 = (151 : Int32) := by decide +kernel
theorem ks_160 : (Int16.ofInt 160).toInt32 = (160 : Int32) := by decide +kernel
theorem ks_200 : (Int16.ofInt 200).toInt32 = (200 : Int32) := by decide +kernel
theorem ks_264 : (Int16.ofInt 264).toInt32 = (264 : Int32) := by decide +kernel
theorem ks_330 : (Int16.ofInt 330).toInt32 = (330 : Int32) := by decide +kernel
theorem ks_384 : (Int16.ofInt 384).toInt32 = (384 : Int32) := by decide +kernel
theorem ks_906 : (Int16.ofInt 906).toInt32 = (906 : Int32) := by decide +kernel
theorem ks_1000 : (Int16.ofInt 1000).toInt32 = (1000 : Int32) := by decide +kernel
theorem ks_1911 : (Int16.ofInt 1911).toInt32 = (1911 : Int32) := by decide +kernel
theorem ks_4096 : (Int16.ofInt 4096).toInt32 = (4096 : Int32) := by decide +kernel
