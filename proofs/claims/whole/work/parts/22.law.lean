/-! THE CLAIM OUT OF ONE WALK OF THE LAW'S BODY. Your part is whole_start (and what it stands on); all else here is the same for every law, but numbers. -/
def R_law : String := "UnitTurnsLaw"
def lw_P (b : Addr) (xs : List Int32) (args : Array Value) (s : State) : Prop := args = #[.ref b] ∧ s.IntsAt b xs ∧ xs.length ≤ 2560 ∧ (Jvm.Cond.and given_1 narrow_1).before args s = true
def lw_Q (_ : Array Value) (s : State) (o : Outcome) (t : State) : Prop := o = .returned (some (.int 1)) ∧ Framed s o t [] 600000 7302250
def lw_Z (below : List Frame) (a : Array Value) (s : State) : State → Prop := fun t => ∃ o, t.status = .running ∧ Ended t below o ∧ lw_Q a s o t
/-- the law's own end, with 1 on the stack, nothing written that was there before, its room as the claim has it -/
theorem lw_ret {p : Program} {l : Launch} {e : Env} {s : State} {m : MethodId} {below : List Frame} {meth : Method} {c : Code} {b : Nat} (hx : p.tables.exec = Jvm.exec) (hb : c.code = code) (hr : meth.sig.returnType = ret) (hlocks : meth.locks = false) {pc : Nat} {H : Heap} {ls : Array Slot} (hdg : decode code pc = .ok (.ireturn, 1)) : W p l e room_1 s m #[Value.ref b] below meth c H [] 600000 7302250 (lw_Z below #[Value.ref b] s) (F0 m pc ls [.int 1]) := by
  intro T hT X
  obtain ⟨fs, hret, hrun, hended, hW, hframe⟩ := X.leave (v := some (.int 1)) (hlocks := hlocks) (fun h => by rw [hr] at h; cases h)
  have hmeth' : T.vm.method? m = some meth := X.method'
  refine ⟨T.setFrames fs, ?_, .returned (some (.int 1)), hrun, hended, rfl, ⟨_, rfl⟩, hW, hframe⟩
  jvm_step X.here [X.here.top, hx, hb, hdg, hmeth', hr, ret, narrow_b1]
  (try refine ⟨rfl, ?_⟩); (try refine ⟨rfl, ?_⟩)
  first | (intro acts; rw [hret _ acts rfl rfl rfl]) | rw [hret _ _ rfl rfl rfl]
  exact Steps.refl _
/-- what holds at the law's entry: the machine, the code, the tables' words (any of lw_tbl by 'hts w (by decide +kernel)'), the script of L ints xs at the cell b, what the Statement gives of the start (any of its parts by flat_of_before) -/
def lw_At (p : Program) (s : State) (m : MethodId) (meth : Method) (c : Code) (b L : Nat) (xs : Nat → Int32) : Prop :=
  p.tables.exec = Jvm.exec ∧ c.code = code ∧ meth.sig.returnType = ret ∧ c.maxLocals = 4 ∧ s.vm.findClass R_law = some m.cls ∧ (∀ w ∈ lw_tbl, w.before #[Value.ref b] s = true) ∧ va_X b L xs s s.heap ∧ b < s.heap.size ∧ meth.locks = false ∧ (Jvm.Cond.and given_1 narrow_1).before #[Value.ref b] s = true
def hs_zL (b L : Nat) (xs : Nat → Int32) : HZ :=
  (room_1, 600000, 7302250, fun G s args meth => args = #[Value.ref b] ∧ meth.sig.returnType = ret ∧ meth.locks = false ∧ va_X b L xs s s.heap ∧ b < s.heap.size ∧ G.2.2.1 84 = b, fun _ s q => s.heap.size ≤ q, fun _ s args below => lw_Z below args s)
section PWL
variable {own : String} {cc : ByteArray} {nL : Nat} {pc pc' : Nat} {ls : List (Option Value)} {st rest : List Value} {σ σ' : HS} {b L : Nat} {xs : Nat → Int32} {D : Nat}
theorem pw_slen (hd : Dc cc pc .arraylength 1 pc') (k : PW own cc nL (hs_zL b L xs) pc' ls (.int (Int32.ofNat L) :: st) σ) : PW own cc nL (hs_zL b L xs) pc ls (.ref 84 :: st) σ := by
  intro p l e s m args below meth c G H locs A C D LL
  obtain ⟨hd, rfl⟩ := hd
  obtain ⟨hx, hb, hml, hown, hts, hne, hK, hj, hA, h1, h2, h3, h4, h5, h6⟩ := id C
  show W _ _ _ _ _ _ _ _ _ _ _ _ _ _ _ (F0 m pc A (.ref (G.2.2.1 84) :: st.map (hs_rl G.2.2.1)))
  rw [h6]
  exact va_slen hx hb h4 h5 (Nat.not_le.mpr h5) D.2 hd (k p l e s m args below meth c G H locs A C D LL)
theorem pw_sld {i v : Int32} (hd : Dc cc pc .iaload 1 pc') (g : ldI xs L i = some v) (k : PW own cc nL (hs_zL b L xs) pc' ls (.int v :: st) σ) : PW own cc nL (hs_zL b L xs) pc ls (.int i :: .ref 84 :: st) σ := by
  intro p l e s m args below meth c G H locs A C D LL
  obtain ⟨hd, rfl⟩ := hd
  obtain ⟨g1, rfl⟩ := ldI_s g
  obtain ⟨hx, hb, hml, hown, hts, hne, hK, hj, hA, h1, h2, h3, h4, h5, h6⟩ := id C
  show W _ _ _ _ _ _ _ _ _ _ _ _ _ _ _ (F0 m pc A (.int i :: .ref (G.2.2.1 84) :: st.map (hs_rl G.2.2.1)))
  rw [h6]
  exact va_sld hx hb h4 h5 (Nat.not_le.mpr h5) D.2 g1 hd (k p l e s m args below meth c G H locs A C D LL)
theorem pw_Lret (hd : Dc code pc .ireturn 1 pc') : PW own code nL (hs_zL b L xs) pc ls [.int 1] σ := by
  intro p l e s m args below meth c G H locs A C D LL
  obtain ⟨hx, hb, hml, hown, hts, hne, hK, hj, hA, rfl, h2, h3, h4, h5, h6⟩ := C
  refine va_forget (fun q hq => D.2.2.2 q hq) ?_
  exact lw_ret hx hb h2 h3 hd.1
theorem hs_no0 {p : Int32 × HS} (h : some ((0 : Int32), σ) = some p) : ¬ p.1 = 1 := by
  cases h; show ¬ (0 : Int32) = 1; decide
theorem hs_LR {D : Nat} (h : D ≤ 100) : D + 1 ≤ (hs_zL b L xs).1.frames ∧ 64 * D + 64 ≤ (hs_zL b L xs).1.locals ∧ (hs_zL b L xs).2.1 ≤ (hs_zL b L xs).1.cells ∧ (hs_zL b L xs).2.2.1 ≤ (hs_zL b L xs).1.slots :=
  ⟨by show D + 1 ≤ 2048; omega, by show 64 * D + 64 ≤ 84000; omega, Nat.le_refl _, Nat.le_refl _⟩
theorem pw_LV0i {ix ci nL' o : Nat} {y : MethodName} {cc' : ByteArray} {ret' : Option FieldType} {tg : List Nat} {r : Int32} (hd : Dc cc pc (.invokevirtual ix) 3 pc') (hm : hs_MV own ix y cc' nL' ret' 0 ci) (ho : hs_OB o ci tg) (hs : hs_Spec 40 y cc' nL' ret' [.ref o] σ (some (.int r), σ')) (hw : (rest.map fun v => v.category).sum ≤ 8) (k : PW own cc nL (hs_zL b L xs) pc' ls (.int r :: rest) σ') : PW own cc nL (hs_zL b L xs) pc ls (.ref o :: rest) σ :=
  pw_callV (As := []) hd (hs_LR (by decide)) hm ho rfl hs hs_isV_int hw k
theorem pw_LV0l {ix ci nL' o : Nat} {y : MethodName} {cc' : ByteArray} {ret' : Option FieldType} {tg : List Nat} {r : Int64} (hd : Dc cc pc (.invokevirtual ix) 3 pc') (hm : hs_MV own ix y cc' nL' ret' 0 ci) (ho : hs_OB o ci tg) (hs : hs_Spec 40 y cc' nL' ret' [.ref o] σ (some (.long r), σ')) (hw : (rest.map fun v => v.category).sum ≤ 8) (k : PW own cc nL (hs_zL b L xs) pc' ls (.long r :: rest) σ') : PW own cc nL (hs_zL b L xs) pc ls (.ref o :: rest) σ :=
  pw_callV (As := []) hd (hs_LR (by decide)) hm ho rfl hs hs_isV_long hw k
theorem pw_LV1i {ix ci nL' o : Nat} {y : MethodName} {cc' : ByteArray} {ret' : Option FieldType} {tg : List Nat} {a0 : Value} {r : Int32} (hd : Dc cc pc (.invokevirtual ix) 3 pc') (hm : hs_MV own ix y cc' nL' ret' 1 ci) (ho : hs_OB o ci tg) (hs : hs_Spec 40 y cc' nL' ret' [.ref o, a0] σ (some (.int r), σ')) (hw : (rest.map fun v => v.category).sum ≤ 8) (k : PW own cc nL (hs_zL b L xs) pc' ls (.int r :: rest) σ') : PW own cc nL (hs_zL b L xs) pc ls (a0 :: .ref o :: rest) σ :=
  pw_callV (As := [a0]) hd (hs_LR (by decide)) hm ho rfl hs hs_isV_int hw k
theorem pw_LV1l {ix ci nL' o : Nat} {y : MethodName} {cc' : ByteArray} {ret' : Option FieldType} {tg : List Nat} {a0 : Value} {r : Int64} (hd : Dc cc pc (.invokevirtual ix) 3 pc') (hm : hs_MV own ix y cc' nL' ret' 1 ci) (ho : hs_OB o ci tg) (hs : hs_Spec 40 y cc' nL' ret' [.ref o, a0] σ (some (.long r), σ')) (hw : (rest.map fun v => v.category).sum ≤ 8) (k : PW own cc nL (hs_zL b L xs) pc' ls (.long r :: rest) σ') : PW own cc nL (hs_zL b L xs) pc ls (a0 :: .ref o :: rest) σ :=
  pw_callV (As := [a0]) hd (hs_LR (by decide)) hm ho rfl hs hs_isV_long hw k
theorem pw_LV2i {ix ci nL' o : Nat} {y : MethodName} {cc' : ByteArray} {ret' : Option FieldType} {tg : List Nat} {a0 a1 : Value} {r : Int32} (hd : Dc cc pc (.invokevirtual ix) 3 pc') (hm : hs_MV own ix y cc' nL' ret' 2 ci) (ho : hs_OB o ci tg) (hs : hs_Spec 40 y cc' nL' ret' [.ref o, a0, a1] σ (some (.int r), σ')) (hw : (rest.map fun v => v.category).sum ≤ 8) (k : PW own cc nL (hs_zL b L xs) pc' ls (.int r :: rest) σ') : PW own cc nL (hs_zL b L xs) pc ls (a1 :: a0 :: .ref o :: rest) σ :=
  pw_callV (As := [a0, a1]) hd (hs_LR (by decide)) hm ho rfl hs hs_isV_int hw k
theorem pw_LV2l {ix ci nL' o : Nat} {y : MethodName} {cc' : ByteArray} {ret' : Option FieldType} {tg : List Nat} {a0 a1 : Value} {r : Int64} (hd : Dc cc pc (.invokevirtual ix) 3 pc') (hm : hs_MV own ix y cc' nL' ret' 2 ci) (ho : hs_OB o ci tg) (hs : hs_Spec 40 y cc' nL' ret' [.ref o, a0, a1] σ (some (.long r), σ')) (hw : (rest.map fun v => v.category).sum ≤ 8) (k : PW own cc nL (hs_zL b L xs) pc' ls (.long r :: rest) σ') : PW own cc nL (hs_zL b L xs) pc ls (a1 :: a0 :: .ref o :: rest) σ :=
  pw_callV (As := [a0, a1]) hd (hs_LR (by decide)) hm ho rfl hs hs_isV_long hw k
theorem pw_LV3i {ix ci nL' o : Nat} {y : MethodName} {cc' : ByteArray} {ret' : Option FieldType} {tg : List Nat} {a0 a1 a2 : Value} {r : Int32} (hd : Dc cc pc (.invokevirtual ix) 3 pc') (hm : hs_MV own ix y cc' nL' ret' 3 ci) (ho : hs_OB o ci tg) (hs : hs_Spec 40 y cc' nL' ret' [.ref o, a0, a1, a2] σ (some (.int r), σ')) (hw : (rest.map fun v => v.category).sum ≤ 8) (k : PW own cc nL (hs_zL b L xs) pc' ls (.int r :: rest) σ') : PW own cc nL (hs_zL b L xs) pc ls (a2 :: a1 :: a0 :: .ref o :: rest) σ :=
  pw_callV (As := [a0, a1, a2]) hd (hs_LR (by decide)) hm ho rfl hs hs_isV_int hw k
theorem pw_LV3l {ix ci nL' o : Nat} {y : MethodName} {cc' : ByteArray} {ret' : Option FieldType} {tg : List Nat} {a0 a1 a2 : Value} {r : Int64} (hd : Dc cc pc (.invokevirtual ix) 3 pc') (hm : hs_MV own ix y cc' nL' ret' 3 ci) (ho : hs_OB o ci tg) (hs : hs_Spec 40 y cc' nL' ret' [.ref o, a0, a1, a2] σ (some (.long r), σ')) (hw : (rest.map fun v => v.category).sum ≤ 8) (k : PW own cc nL (hs_zL b L xs) pc' ls (.long r :: rest) σ') : PW own cc nL (hs_zL b L xs) pc ls (a2 :: a1 :: a0 :: .ref o :: rest) σ :=
  pw_callV (As := [a0, a1, a2]) hd (hs_LR (by decide)) hm ho rfl hs hs_isV_long hw k
theorem pw_LV4i {ix ci nL' o : Nat} {y : MethodName} {cc' : ByteArray} {ret' : Option FieldType} {tg : List Nat} {a0 a1 a2 a3 : Value} {r : Int32} (hd : Dc cc pc (.invokevirtual ix) 3 pc') (hm : hs_MV own ix y cc' nL' ret' 4 ci) (ho : hs_OB o ci tg) (hs : hs_Spec 40 y cc' nL' ret' [.ref o, a0, a1, a2, a3] σ (some (.int r), σ')) (hw : (rest.map fun v => v.category).sum ≤ 8) (k : PW own cc nL (hs_zL b L xs) pc' ls (.int r :: rest) σ') : PW own cc nL (hs_zL b L xs) pc ls (a3 :: a2 :: a1 :: a0 :: .ref o :: rest) σ :=
  pw_callV (As := [a0, a1, a2, a3]) hd (hs_LR (by decide)) hm ho rfl hs hs_isV_int hw k
theorem pw_LV4l {ix ci nL' o : Nat} {y : MethodName} {cc' : ByteArray} {ret' : Option FieldType} {tg : List Nat} {a0 a1 a2 a3 : Value} {r : Int64} (hd : Dc cc pc (.invokevirtual ix) 3 pc') (hm : hs_MV own ix y cc' nL' ret' 4 ci) (ho : hs_OB o ci tg) (hs : hs_Spec 40 y cc' nL' ret' [.ref o, a0, a1, a2, a3] σ (some (.long r), σ')) (hw : (rest.map fun v => v.category).sum ≤ 8) (k : PW own cc nL (hs_zL b L xs) pc' ls (.long r :: rest) σ') : PW own cc nL (hs_zL b L xs) pc ls (a3 :: a2 :: a1 :: a0 :: .ref o :: rest) σ :=
  pw_callV (As := [a0, a1, a2, a3]) hd (hs_LR (by decide)) hm ho rfl hs hs_isV_long hw k
end PWL
theorem eL_law_0 : Dc cL_law 0 (.new 7) 3 3 := ⟨by decide +kernel, rfl⟩
theorem eL_law_3 : Dc cL_law 3 .dup 1 4 := ⟨by decide +kernel, rfl⟩
theorem eL_law_4 : Dc cL_law 4 (.invokespecial 9) 3 7 := ⟨by decide +kernel, rfl⟩
theorem eL_law_7 : Dc cL_law 7 (.astore_n 1) 1 8 := ⟨by decide +kernel, rfl⟩
theorem eL_law_8 : Dc cL_law 8 (.new 10) 3 11 := ⟨by decide +kernel, rfl⟩
theorem eL_law_11 : Dc cL_law 11 .dup 1 12 := ⟨by decide +kernel, rfl⟩
theorem eL_law_12 : Dc cL_law 12 (.invokespecial 12) 3 15 := ⟨by decide +kernel, rfl⟩
theorem eL_law_15 : Dc cL_law 15 (.astore_n 2) 1 16 := ⟨by decide +kernel, rfl⟩
theorem eL_law_16 : Dc cL_law 16 (.iconst 0) 1 17 := ⟨by decide +kernel, rfl⟩
theorem eL_law_17 : Dc cL_law 17 (.istore_n 3) 1 18 := ⟨by decide +kernel, rfl⟩
theorem eL_law_18 : Dc cL_law 18 (.iload_n 3) 1 19 := ⟨by decide +kernel, rfl⟩
theorem eL_law_19 : Dc cL_law 19 (.aload_n 0) 1 20 := ⟨by decide +kernel, rfl⟩
theorem eL_law_20 : Dc cL_law 20 .arraylength 1 21 := ⟨by decide +kernel, rfl⟩
theorem eL_law_21 : Dc cL_law 21 (.iconst 5) 1 22 := ⟨by decide +kernel, rfl⟩
theorem eL_law_22 : Dc cL_law 22 .isub 1 23 := ⟨by decide +kernel, rfl⟩
theorem eL_law_23 : Dc cL_law 23 (.if_icmp .gt 639) 3 26 := ⟨by decide +kernel, rfl⟩
theorem eL_law_26 : Dc cL_law 26 (.aload_n 0) 1 27 := ⟨by decide +kernel, rfl⟩
theorem eL_law_27 : Dc cL_law 27 (.iload_n 3) 1 28 := ⟨by decide +kernel, rfl⟩
theorem eL_law_28 : Dc cL_law 28 .iaload 1 29 := ⟨by decide +kernel, rfl⟩
theorem eL_law_29 : Dc cL_law 29 (.bipush 31) 2 31 := ⟨by decide +kernel, rfl⟩
theorem eL_law_31 : Dc cL_law 31 .iand 1 32 := ⟨by decide +kernel, rfl⟩
theorem eL_law_32 : Dc cL_law 32 (.tableswitch 624 0 20 #[100, 153, 186, 219, 232, 265, 278, 311, 334, 377, 400, 433, 446, 469, 502, 525, 548, 561, 574, 587, 610]) 100 132 := ⟨by decide +kernel, rfl⟩
theorem eL_law_132 : Dc cL_law 132 (.aload_n 1) 1 133 := ⟨by decide +kernel, rfl⟩
theorem eL_law_133 : Dc cL_law 133 (.aload_n 0) 1 134 := ⟨by decide +kernel, rfl⟩
theorem eL_law_134 : Dc cL_law 134 (.iload_n 3) 1 135 := ⟨by decide +kernel, rfl⟩
theorem eL_law_135 : Dc cL_law 135 (.iconst 1) 1 136 := ⟨by decide +kernel, rfl⟩
theorem eL_law_136 : Dc cL_law 136 .iadd 1 137 := ⟨by decide +kernel, rfl⟩
theorem eL_law_137 : Dc cL_law 137 .iaload 1 138 := ⟨by decide +kernel, rfl⟩
theorem eL_law_138 : Dc cL_law 138 (.aload_n 0) 1 139 := ⟨by decide +kernel, rfl⟩
theorem eL_law_139 : Dc cL_law 139 (.iload_n 3) 1 140 := ⟨by decide +kernel, rfl⟩
theorem eL_law_140 : Dc cL_law 140 (.iconst 2) 1 141 := ⟨by decide +kernel, rfl⟩
theorem eL_law_141 : Dc cL_law 141 .iadd 1 142 := ⟨by decide +kernel, rfl⟩
theorem eL_law_142 : Dc cL_law 142 .iaload 1 143 := ⟨by decide +kernel, rfl⟩
theorem eL_law_143 : Dc cL_law 143 (.aload_n 0) 1 144 := ⟨by decide +kernel, rfl⟩
theorem eL_law_144 : Dc cL_law 144 (.iload_n 3) 1 145 := ⟨by decide +kernel, rfl⟩
theorem eL_law_145 : Dc cL_law 145 (.iconst 3) 1 146 := ⟨by decide +kernel, rfl⟩
theorem eL_law_146 : Dc cL_law 146 .iadd 1 147 := ⟨by decide +kernel, rfl⟩
theorem eL_law_147 : Dc cL_law 147 .iaload 1 148 := ⟨by decide +kernel, rfl⟩
theorem eL_law_148 : Dc cL_law 148 (.aload_n 0) 1 149 := ⟨by decide +kernel, rfl⟩
theorem eL_law_149 : Dc cL_law 149 (.iload_n 3) 1 150 := ⟨by decide +kernel, rfl⟩
theorem eL_law_150 : Dc cL_law 150 (.iconst 4) 1 151 := ⟨by decide +kernel, rfl⟩
theorem eL_law_151 : Dc cL_law 151 .iadd 1 152 := ⟨by decide +kernel, rfl⟩
theorem eL_law_152 : Dc cL_law 152 .iaload 1 153 := ⟨by decide +kernel, rfl⟩
theorem eL_law_153 : Dc cL_law 153 (.invokevirtual 13) 3 156 := ⟨by decide +kernel, rfl⟩
theorem eL_law_156 : Dc cL_law 156 (.aload_n 2) 1 157 := ⟨by decide +kernel, rfl⟩
theorem eL_law_157 : Dc cL_law 157 (.aload_n 0) 1 158 := ⟨by decide +kernel, rfl⟩
theorem eL_law_158 : Dc cL_law 158 (.iload_n 3) 1 159 := ⟨by decide +kernel, rfl⟩
theorem eL_law_159 : Dc cL_law 159 (.iconst 1) 1 160 := ⟨by decide +kernel, rfl⟩
theorem eL_law_160 : Dc cL_law 160 .iadd 1 161 := ⟨by decide +kernel, rfl⟩
theorem eL_law_161 : Dc cL_law 161 .iaload 1 162 := ⟨by decide +kernel, rfl⟩
theorem eL_law_162 : Dc cL_law 162 (.aload_n 0) 1 163 := ⟨by decide +kernel, rfl⟩
theorem eL_law_163 : Dc cL_law 163 (.iload_n 3) 1 164 := ⟨by decide +kernel, rfl⟩
theorem eL_law_164 : Dc cL_law 164 (.iconst 2) 1 165 := ⟨by decide +kernel, rfl⟩
theorem eL_law_165 : Dc cL_law 165 .iadd 1 166 := ⟨by decide +kernel, rfl⟩
theorem eL_law_166 : Dc cL_law 166 .iaload 1 167 := ⟨by decide +kernel, rfl⟩
theorem eL_law_167 : Dc cL_law 167 (.aload_n 0) 1 168 := ⟨by decide +kernel, rfl⟩
theorem eL_law_168 : Dc cL_law 168 (.iload_n 3) 1 169 := ⟨by decide +kernel, rfl⟩
theorem eL_law_169 : Dc cL_law 169 (.iconst 3) 1 170 := ⟨by decide +kernel, rfl⟩
theorem eL_law_170 : Dc cL_law 170 .iadd 1 171 := ⟨by decide +kernel, rfl⟩
theorem eL_law_171 : Dc cL_law 171 .iaload 1 172 := ⟨by decide +kernel, rfl⟩
theorem eL_law_172 : Dc cL_law 172 (.aload_n 0) 1 173 := ⟨by decide +kernel, rfl⟩
theorem eL_law_173 : Dc cL_law 173 (.iload_n 3) 1 174 := ⟨by decide +kernel, rfl⟩
theorem eL_law_174 : Dc cL_law 174 (.iconst 4) 1 175 := ⟨by decide +kernel, rfl⟩
theorem eL_law_175 : Dc cL_law 175 .iadd 1 176 := ⟨by decide +kernel, rfl⟩
theorem eL_law_176 : Dc cL_law 176 .iaload 1 177 := ⟨by decide +kernel, rfl⟩
theorem eL_law_177 : Dc cL_law 177 (.invokevirtual 17) 3 180 := ⟨by decide +kernel, rfl⟩
theorem eL_law_180 : Dc cL_law 180 (.if_icmp .eq 476) 3 183 := ⟨by decide +kernel, rfl⟩
theorem eL_law_183 : Dc cL_law 183 (.iconst 0) 1 184 := ⟨by decide +kernel, rfl⟩
theorem eL_law_184 : Dc cL_law 184 .ireturn 1 185 := ⟨by decide +kernel, rfl⟩
theorem eL_law_185 : Dc cL_law 185 (.aload_n 1) 1 186 := ⟨by decide +kernel, rfl⟩
theorem eL_law_186 : Dc cL_law 186 (.aload_n 0) 1 187 := ⟨by decide +kernel, rfl⟩
theorem eL_law_187 : Dc cL_law 187 (.iload_n 3) 1 188 := ⟨by decide +kernel, rfl⟩
theorem eL_law_188 : Dc cL_law 188 (.iconst 1) 1 189 := ⟨by decide +kernel, rfl⟩
theorem eL_law_189 : Dc cL_law 189 .iadd 1 190 := ⟨by decide +kernel, rfl⟩
theorem eL_law_190 : Dc cL_law 190 .iaload 1 191 := ⟨by decide +kernel, rfl⟩
theorem eL_law_191 : Dc cL_law 191 (.aload_n 0) 1 192 := ⟨by decide +kernel, rfl⟩
theorem eL_law_192 : Dc cL_law 192 (.iload_n 3) 1 193 := ⟨by decide +kernel, rfl⟩
theorem eL_law_193 : Dc cL_law 193 (.iconst 2) 1 194 := ⟨by decide +kernel, rfl⟩
theorem eL_law_194 : Dc cL_law 194 .iadd 1 195 := ⟨by decide +kernel, rfl⟩
theorem eL_law_195 : Dc cL_law 195 .iaload 1 196 := ⟨by decide +kernel, rfl⟩
theorem eL_law_196 : Dc cL_law 196 (.invokevirtual 18) 3 199 := ⟨by decide +kernel, rfl⟩
theorem eL_law_199 : Dc cL_law 199 (.aload_n 2) 1 200 := ⟨by decide +kernel, rfl⟩
theorem eL_law_200 : Dc cL_law 200 (.aload_n 0) 1 201 := ⟨by decide +kernel, rfl⟩
theorem eL_law_201 : Dc cL_law 201 (.iload_n 3) 1 202 := ⟨by decide +kernel, rfl⟩
theorem eL_law_202 : Dc cL_law 202 (.iconst 1) 1 203 := ⟨by decide +kernel, rfl⟩
theorem eL_law_203 : Dc cL_law 203 .iadd 1 204 := ⟨by decide +kernel, rfl⟩
theorem eL_law_204 : Dc cL_law 204 .iaload 1 205 := ⟨by decide +kernel, rfl⟩
theorem eL_law_205 : Dc cL_law 205 (.aload_n 0) 1 206 := ⟨by decide +kernel, rfl⟩
theorem eL_law_206 : Dc cL_law 206 (.iload_n 3) 1 207 := ⟨by decide +kernel, rfl⟩
theorem eL_law_207 : Dc cL_law 207 (.iconst 2) 1 208 := ⟨by decide +kernel, rfl⟩
theorem eL_law_208 : Dc cL_law 208 .iadd 1 209 := ⟨by decide +kernel, rfl⟩
theorem eL_law_209 : Dc cL_law 209 .iaload 1 210 := ⟨by decide +kernel, rfl⟩
theorem eL_law_210 : Dc cL_law 210 (.invokevirtual 22) 3 213 := ⟨by decide +kernel, rfl⟩
theorem eL_law_213 : Dc cL_law 213 (.if_icmp .eq 443) 3 216 := ⟨by decide +kernel, rfl⟩
theorem eL_law_216 : Dc cL_law 216 (.iconst 0) 1 217 := ⟨by decide +kernel, rfl⟩
theorem eL_law_217 : Dc cL_law 217 .ireturn 1 218 := ⟨by decide +kernel, rfl⟩
theorem eL_law_218 : Dc cL_law 218 (.aload_n 1) 1 219 := ⟨by decide +kernel, rfl⟩
theorem eL_law_219 : Dc cL_law 219 (.aload_n 0) 1 220 := ⟨by decide +kernel, rfl⟩
theorem eL_law_220 : Dc cL_law 220 (.iload_n 3) 1 221 := ⟨by decide +kernel, rfl⟩
theorem eL_law_221 : Dc cL_law 221 (.iconst 1) 1 222 := ⟨by decide +kernel, rfl⟩
theorem eL_law_222 : Dc cL_law 222 .iadd 1 223 := ⟨by decide +kernel, rfl⟩
theorem eL_law_223 : Dc cL_law 223 .iaload 1 224 := ⟨by decide +kernel, rfl⟩
theorem eL_law_224 : Dc cL_law 224 (.aload_n 0) 1 225 := ⟨by decide +kernel, rfl⟩
theorem eL_law_225 : Dc cL_law 225 (.iload_n 3) 1 226 := ⟨by decide +kernel, rfl⟩
theorem eL_law_226 : Dc cL_law 226 (.iconst 2) 1 227 := ⟨by decide +kernel, rfl⟩
theorem eL_law_227 : Dc cL_law 227 .iadd 1 228 := ⟨by decide +kernel, rfl⟩
theorem eL_law_228 : Dc cL_law 228 .iaload 1 229 := ⟨by decide +kernel, rfl⟩
theorem eL_law_229 : Dc cL_law 229 (.invokevirtual 23) 3 232 := ⟨by decide +kernel, rfl⟩
theorem eL_law_232 : Dc cL_law 232 (.aload_n 2) 1 233 := ⟨by decide +kernel, rfl⟩
theorem eL_law_233 : Dc cL_law 233 (.aload_n 0) 1 234 := ⟨by decide +kernel, rfl⟩
theorem eL_law_234 : Dc cL_law 234 (.iload_n 3) 1 235 := ⟨by decide +kernel, rfl⟩
theorem eL_law_235 : Dc cL_law 235 (.iconst 1) 1 236 := ⟨by decide +kernel, rfl⟩
theorem eL_law_236 : Dc cL_law 236 .iadd 1 237 := ⟨by decide +kernel, rfl⟩
theorem eL_law_237 : Dc cL_law 237 .iaload 1 238 := ⟨by decide +kernel, rfl⟩
theorem eL_law_238 : Dc cL_law 238 (.aload_n 0) 1 239 := ⟨by decide +kernel, rfl⟩
theorem eL_law_239 : Dc cL_law 239 (.iload_n 3) 1 240 := ⟨by decide +kernel, rfl⟩
theorem eL_law_240 : Dc cL_law 240 (.iconst 2) 1 241 := ⟨by decide +kernel, rfl⟩
theorem eL_law_241 : Dc cL_law 241 .iadd 1 242 := ⟨by decide +kernel, rfl⟩
theorem eL_law_242 : Dc cL_law 242 .iaload 1 243 := ⟨by decide +kernel, rfl⟩
theorem eL_law_243 : Dc cL_law 243 (.invokevirtual 26) 3 246 := ⟨by decide +kernel, rfl⟩
theorem eL_law_246 : Dc cL_law 246 (.if_icmp .eq 410) 3 249 := ⟨by decide +kernel, rfl⟩
theorem eL_law_249 : Dc cL_law 249 (.iconst 0) 1 250 := ⟨by decide +kernel, rfl⟩
theorem eL_law_250 : Dc cL_law 250 .ireturn 1 251 := ⟨by decide +kernel, rfl⟩
theorem eL_law_251 : Dc cL_law 251 (.aload_n 1) 1 252 := ⟨by decide +kernel, rfl⟩
theorem eL_law_252 : Dc cL_law 252 (.invokevirtual 27) 3 255 := ⟨by decide +kernel, rfl⟩
theorem eL_law_255 : Dc cL_law 255 (.aload_n 2) 1 256 := ⟨by decide +kernel, rfl⟩
theorem eL_law_256 : Dc cL_law 256 (.invokevirtual 31) 3 259 := ⟨by decide +kernel, rfl⟩
theorem eL_law_259 : Dc cL_law 259 (.if_icmp .eq 397) 3 262 := ⟨by decide +kernel, rfl⟩
theorem eL_law_262 : Dc cL_law 262 (.iconst 0) 1 263 := ⟨by decide +kernel, rfl⟩
theorem eL_law_263 : Dc cL_law 263 .ireturn 1 264 := ⟨by decide +kernel, rfl⟩
theorem eL_law_264 : Dc cL_law 264 (.aload_n 1) 1 265 := ⟨by decide +kernel, rfl⟩
theorem eL_law_265 : Dc cL_law 265 (.aload_n 0) 1 266 := ⟨by decide +kernel, rfl⟩
theorem eL_law_266 : Dc cL_law 266 (.iload_n 3) 1 267 := ⟨by decide +kernel, rfl⟩
theorem eL_law_267 : Dc cL_law 267 (.iconst 1) 1 268 := ⟨by decide +kernel, rfl⟩
theorem eL_law_268 : Dc cL_law 268 .iadd 1 269 := ⟨by decide +kernel, rfl⟩
theorem eL_law_269 : Dc cL_law 269 .iaload 1 270 := ⟨by decide +kernel, rfl⟩
theorem eL_law_270 : Dc cL_law 270 (.aload_n 0) 1 271 := ⟨by decide +kernel, rfl⟩
theorem eL_law_271 : Dc cL_law 271 (.iload_n 3) 1 272 := ⟨by decide +kernel, rfl⟩
theorem eL_law_272 : Dc cL_law 272 (.iconst 2) 1 273 := ⟨by decide +kernel, rfl⟩
theorem eL_law_273 : Dc cL_law 273 .iadd 1 274 := ⟨by decide +kernel, rfl⟩
theorem eL_law_274 : Dc cL_law 274 .iaload 1 275 := ⟨by decide +kernel, rfl⟩
theorem eL_law_275 : Dc cL_law 275 (.invokevirtual 32) 3 278 := ⟨by decide +kernel, rfl⟩
theorem eL_law_278 : Dc cL_law 278 (.aload_n 2) 1 279 := ⟨by decide +kernel, rfl⟩
theorem eL_law_279 : Dc cL_law 279 (.aload_n 0) 1 280 := ⟨by decide +kernel, rfl⟩
theorem eL_law_280 : Dc cL_law 280 (.iload_n 3) 1 281 := ⟨by decide +kernel, rfl⟩
theorem eL_law_281 : Dc cL_law 281 (.iconst 1) 1 282 := ⟨by decide +kernel, rfl⟩
theorem eL_law_282 : Dc cL_law 282 .iadd 1 283 := ⟨by decide +kernel, rfl⟩
theorem eL_law_283 : Dc cL_law 283 .iaload 1 284 := ⟨by decide +kernel, rfl⟩
theorem eL_law_284 : Dc cL_law 284 (.aload_n 0) 1 285 := ⟨by decide +kernel, rfl⟩
theorem eL_law_285 : Dc cL_law 285 (.iload_n 3) 1 286 := ⟨by decide +kernel, rfl⟩
theorem eL_law_286 : Dc cL_law 286 (.iconst 2) 1 287 := ⟨by decide +kernel, rfl⟩
theorem eL_law_287 : Dc cL_law 287 .iadd 1 288 := ⟨by decide +kernel, rfl⟩
theorem eL_law_288 : Dc cL_law 288 .iaload 1 289 := ⟨by decide +kernel, rfl⟩
theorem eL_law_289 : Dc cL_law 289 (.invokevirtual 35) 3 292 := ⟨by decide +kernel, rfl⟩
theorem eL_law_292 : Dc cL_law 292 (.if_icmp .eq 364) 3 295 := ⟨by decide +kernel, rfl⟩
theorem eL_law_295 : Dc cL_law 295 (.iconst 0) 1 296 := ⟨by decide +kernel, rfl⟩
theorem eL_law_296 : Dc cL_law 296 .ireturn 1 297 := ⟨by decide +kernel, rfl⟩
theorem eL_law_297 : Dc cL_law 297 (.aload_n 1) 1 298 := ⟨by decide +kernel, rfl⟩
theorem eL_law_298 : Dc cL_law 298 (.invokevirtual 36) 3 301 := ⟨by decide +kernel, rfl⟩
theorem eL_law_301 : Dc cL_law 301 (.aload_n 2) 1 302 := ⟨by decide +kernel, rfl⟩
theorem eL_law_302 : Dc cL_law 302 (.invokevirtual 39) 3 305 := ⟨by decide +kernel, rfl⟩
theorem eL_law_305 : Dc cL_law 305 (.if_icmp .eq 351) 3 308 := ⟨by decide +kernel, rfl⟩
theorem eL_law_308 : Dc cL_law 308 (.iconst 0) 1 309 := ⟨by decide +kernel, rfl⟩
theorem eL_law_309 : Dc cL_law 309 .ireturn 1 310 := ⟨by decide +kernel, rfl⟩
theorem eL_law_310 : Dc cL_law 310 (.aload_n 1) 1 311 := ⟨by decide +kernel, rfl⟩
theorem eL_law_311 : Dc cL_law 311 (.aload_n 0) 1 312 := ⟨by decide +kernel, rfl⟩
theorem eL_law_312 : Dc cL_law 312 (.iload_n 3) 1 313 := ⟨by decide +kernel, rfl⟩
theorem eL_law_313 : Dc cL_law 313 (.iconst 1) 1 314 := ⟨by decide +kernel, rfl⟩
theorem eL_law_314 : Dc cL_law 314 .iadd 1 315 := ⟨by decide +kernel, rfl⟩
theorem eL_law_315 : Dc cL_law 315 .iaload 1 316 := ⟨by decide +kernel, rfl⟩
theorem eL_law_316 : Dc cL_law 316 (.aload_n 0) 1 317 := ⟨by decide +kernel, rfl⟩
theorem eL_law_317 : Dc cL_law 317 (.iload_n 3) 1 318 := ⟨by decide +kernel, rfl⟩
theorem eL_law_318 : Dc cL_law 318 (.iconst 2) 1 319 := ⟨by decide +kernel, rfl⟩
theorem eL_law_319 : Dc cL_law 319 .iadd 1 320 := ⟨by decide +kernel, rfl⟩
theorem eL_law_320 : Dc cL_law 320 .iaload 1 321 := ⟨by decide +kernel, rfl⟩
theorem eL_law_321 : Dc cL_law 321 (.invokevirtual 40) 3 324 := ⟨by decide +kernel, rfl⟩
theorem eL_law_324 : Dc cL_law 324 (.aload_n 2) 1 325 := ⟨by decide +kernel, rfl⟩
theorem eL_law_325 : Dc cL_law 325 (.aload_n 0) 1 326 := ⟨by decide +kernel, rfl⟩
theorem eL_law_326 : Dc cL_law 326 (.iload_n 3) 1 327 := ⟨by decide +kernel, rfl⟩
theorem eL_law_327 : Dc cL_law 327 (.iconst 1) 1 328 := ⟨by decide +kernel, rfl⟩
theorem eL_law_328 : Dc cL_law 328 .iadd 1 329 := ⟨by decide +kernel, rfl⟩
theorem eL_law_329 : Dc cL_law 329 .iaload 1 330 := ⟨by decide +kernel, rfl⟩
theorem eL_law_330 : Dc cL_law 330 (.aload_n 0) 1 331 := ⟨by decide +kernel, rfl⟩
theorem eL_law_331 : Dc cL_law 331 (.iload_n 3) 1 332 := ⟨by decide +kernel, rfl⟩
theorem eL_law_332 : Dc cL_law 332 (.iconst 2) 1 333 := ⟨by decide +kernel, rfl⟩
theorem eL_law_333 : Dc cL_law 333 .iadd 1 334 := ⟨by decide +kernel, rfl⟩
theorem eL_law_334 : Dc cL_law 334 .iaload 1 335 := ⟨by decide +kernel, rfl⟩
theorem eL_law_335 : Dc cL_law 335 (.invokevirtual 43) 3 338 := ⟨by decide +kernel, rfl⟩
theorem eL_law_338 : Dc cL_law 338 (.if_icmp .eq 318) 3 341 := ⟨by decide +kernel, rfl⟩
theorem eL_law_341 : Dc cL_law 341 (.iconst 0) 1 342 := ⟨by decide +kernel, rfl⟩
theorem eL_law_342 : Dc cL_law 342 .ireturn 1 343 := ⟨by decide +kernel, rfl⟩
theorem eL_law_343 : Dc cL_law 343 (.aload_n 1) 1 344 := ⟨by decide +kernel, rfl⟩
theorem eL_law_344 : Dc cL_law 344 (.aload_n 0) 1 345 := ⟨by decide +kernel, rfl⟩
theorem eL_law_345 : Dc cL_law 345 (.iload_n 3) 1 346 := ⟨by decide +kernel, rfl⟩
theorem eL_law_346 : Dc cL_law 346 (.iconst 1) 1 347 := ⟨by decide +kernel, rfl⟩
theorem eL_law_347 : Dc cL_law 347 .iadd 1 348 := ⟨by decide +kernel, rfl⟩
theorem eL_law_348 : Dc cL_law 348 .iaload 1 349 := ⟨by decide +kernel, rfl⟩
theorem eL_law_349 : Dc cL_law 349 (.invokevirtual 44) 3 352 := ⟨by decide +kernel, rfl⟩
theorem eL_law_352 : Dc cL_law 352 (.aload_n 2) 1 353 := ⟨by decide +kernel, rfl⟩
theorem eL_law_353 : Dc cL_law 353 (.aload_n 0) 1 354 := ⟨by decide +kernel, rfl⟩
theorem eL_law_354 : Dc cL_law 354 (.iload_n 3) 1 355 := ⟨by decide +kernel, rfl⟩
theorem eL_law_355 : Dc cL_law 355 (.iconst 1) 1 356 := ⟨by decide +kernel, rfl⟩
theorem eL_law_356 : Dc cL_law 356 .iadd 1 357 := ⟨by decide +kernel, rfl⟩
theorem eL_law_357 : Dc cL_law 357 .iaload 1 358 := ⟨by decide +kernel, rfl⟩
theorem eL_law_358 : Dc cL_law 358 (.invokevirtual 48) 3 361 := ⟨by decide +kernel, rfl⟩
theorem eL_law_361 : Dc cL_law 361 (.if_icmp .eq 295) 3 364 := ⟨by decide +kernel, rfl⟩
theorem eL_law_364 : Dc cL_law 364 (.iconst 0) 1 365 := ⟨by decide +kernel, rfl⟩
theorem eL_law_365 : Dc cL_law 365 .ireturn 1 366 := ⟨by decide +kernel, rfl⟩
theorem eL_law_366 : Dc cL_law 366 (.aload_n 1) 1 367 := ⟨by decide +kernel, rfl⟩
theorem eL_law_367 : Dc cL_law 367 (.aload_n 0) 1 368 := ⟨by decide +kernel, rfl⟩
theorem eL_law_368 : Dc cL_law 368 (.iload_n 3) 1 369 := ⟨by decide +kernel, rfl⟩
theorem eL_law_369 : Dc cL_law 369 (.iconst 1) 1 370 := ⟨by decide +kernel, rfl⟩
theorem eL_law_370 : Dc cL_law 370 .iadd 1 371 := ⟨by decide +kernel, rfl⟩
theorem eL_law_371 : Dc cL_law 371 .iaload 1 372 := ⟨by decide +kernel, rfl⟩
theorem eL_law_372 : Dc cL_law 372 (.aload_n 0) 1 373 := ⟨by decide +kernel, rfl⟩
theorem eL_law_373 : Dc cL_law 373 (.iload_n 3) 1 374 := ⟨by decide +kernel, rfl⟩
theorem eL_law_374 : Dc cL_law 374 (.iconst 2) 1 375 := ⟨by decide +kernel, rfl⟩
theorem eL_law_375 : Dc cL_law 375 .iadd 1 376 := ⟨by decide +kernel, rfl⟩
theorem eL_law_376 : Dc cL_law 376 .iaload 1 377 := ⟨by decide +kernel, rfl⟩
theorem eL_law_377 : Dc cL_law 377 (.aload_n 0) 1 378 := ⟨by decide +kernel, rfl⟩
theorem eL_law_378 : Dc cL_law 378 (.iload_n 3) 1 379 := ⟨by decide +kernel, rfl⟩
theorem eL_law_379 : Dc cL_law 379 (.iconst 3) 1 380 := ⟨by decide +kernel, rfl⟩
theorem eL_law_380 : Dc cL_law 380 .iadd 1 381 := ⟨by decide +kernel, rfl⟩
theorem eL_law_381 : Dc cL_law 381 .iaload 1 382 := ⟨by decide +kernel, rfl⟩
theorem eL_law_382 : Dc cL_law 382 (.invokevirtual 49) 3 385 := ⟨by decide +kernel, rfl⟩
theorem eL_law_385 : Dc cL_law 385 (.aload_n 2) 1 386 := ⟨by decide +kernel, rfl⟩
theorem eL_law_386 : Dc cL_law 386 (.aload_n 0) 1 387 := ⟨by decide +kernel, rfl⟩
theorem eL_law_387 : Dc cL_law 387 (.iload_n 3) 1 388 := ⟨by decide +kernel, rfl⟩
theorem eL_law_388 : Dc cL_law 388 (.iconst 1) 1 389 := ⟨by decide +kernel, rfl⟩
theorem eL_law_389 : Dc cL_law 389 .iadd 1 390 := ⟨by decide +kernel, rfl⟩
theorem eL_law_390 : Dc cL_law 390 .iaload 1 391 := ⟨by decide +kernel, rfl⟩
theorem eL_law_391 : Dc cL_law 391 (.aload_n 0) 1 392 := ⟨by decide +kernel, rfl⟩
theorem eL_law_392 : Dc cL_law 392 (.iload_n 3) 1 393 := ⟨by decide +kernel, rfl⟩
theorem eL_law_393 : Dc cL_law 393 (.iconst 2) 1 394 := ⟨by decide +kernel, rfl⟩
theorem eL_law_394 : Dc cL_law 394 .iadd 1 395 := ⟨by decide +kernel, rfl⟩
theorem eL_law_395 : Dc cL_law 395 .iaload 1 396 := ⟨by decide +kernel, rfl⟩
theorem eL_law_396 : Dc cL_law 396 (.aload_n 0) 1 397 := ⟨by decide +kernel, rfl⟩
theorem eL_law_397 : Dc cL_law 397 (.iload_n 3) 1 398 := ⟨by decide +kernel, rfl⟩
theorem eL_law_398 : Dc cL_law 398 (.iconst 3) 1 399 := ⟨by decide +kernel, rfl⟩
theorem eL_law_399 : Dc cL_law 399 .iadd 1 400 := ⟨by decide +kernel, rfl⟩
theorem eL_law_400 : Dc cL_law 400 .iaload 1 401 := ⟨by decide +kernel, rfl⟩
theorem eL_law_401 : Dc cL_law 401 (.invokevirtual 53) 3 404 := ⟨by decide +kernel, rfl⟩
theorem eL_law_404 : Dc cL_law 404 (.if_icmp .eq 252) 3 407 := ⟨by decide +kernel, rfl⟩
theorem eL_law_407 : Dc cL_law 407 (.iconst 0) 1 408 := ⟨by decide +kernel, rfl⟩
theorem eL_law_408 : Dc cL_law 408 .ireturn 1 409 := ⟨by decide +kernel, rfl⟩
theorem eL_law_409 : Dc cL_law 409 (.aload_n 1) 1 410 := ⟨by decide +kernel, rfl⟩
theorem eL_law_410 : Dc cL_law 410 (.aload_n 0) 1 411 := ⟨by decide +kernel, rfl⟩
theorem eL_law_411 : Dc cL_law 411 (.iload_n 3) 1 412 := ⟨by decide +kernel, rfl⟩
theorem eL_law_412 : Dc cL_law 412 (.iconst 1) 1 413 := ⟨by decide +kernel, rfl⟩
theorem eL_law_413 : Dc cL_law 413 .iadd 1 414 := ⟨by decide +kernel, rfl⟩
theorem eL_law_414 : Dc cL_law 414 .iaload 1 415 := ⟨by decide +kernel, rfl⟩
theorem eL_law_415 : Dc cL_law 415 (.invokevirtual 54) 3 418 := ⟨by decide +kernel, rfl⟩
theorem eL_law_418 : Dc cL_law 418 (.aload_n 2) 1 419 := ⟨by decide +kernel, rfl⟩
theorem eL_law_419 : Dc cL_law 419 (.aload_n 0) 1 420 := ⟨by decide +kernel, rfl⟩
theorem eL_law_420 : Dc cL_law 420 (.iload_n 3) 1 421 := ⟨by decide +kernel, rfl⟩
theorem eL_law_421 : Dc cL_law 421 (.iconst 1) 1 422 := ⟨by decide +kernel, rfl⟩
theorem eL_law_422 : Dc cL_law 422 .iadd 1 423 := ⟨by decide +kernel, rfl⟩
theorem eL_law_423 : Dc cL_law 423 .iaload 1 424 := ⟨by decide +kernel, rfl⟩
theorem eL_law_424 : Dc cL_law 424 (.invokevirtual 57) 3 427 := ⟨by decide +kernel, rfl⟩
theorem eL_law_427 : Dc cL_law 427 (.if_icmp .eq 229) 3 430 := ⟨by decide +kernel, rfl⟩
theorem eL_law_430 : Dc cL_law 430 (.iconst 0) 1 431 := ⟨by decide +kernel, rfl⟩
theorem eL_law_431 : Dc cL_law 431 .ireturn 1 432 := ⟨by decide +kernel, rfl⟩
theorem eL_law_432 : Dc cL_law 432 (.aload_n 1) 1 433 := ⟨by decide +kernel, rfl⟩
theorem eL_law_433 : Dc cL_law 433 (.aload_n 0) 1 434 := ⟨by decide +kernel, rfl⟩
theorem eL_law_434 : Dc cL_law 434 (.iload_n 3) 1 435 := ⟨by decide +kernel, rfl⟩
theorem eL_law_435 : Dc cL_law 435 (.iconst 1) 1 436 := ⟨by decide +kernel, rfl⟩
theorem eL_law_436 : Dc cL_law 436 .iadd 1 437 := ⟨by decide +kernel, rfl⟩
theorem eL_law_437 : Dc cL_law 437 .iaload 1 438 := ⟨by decide +kernel, rfl⟩
theorem eL_law_438 : Dc cL_law 438 (.aload_n 0) 1 439 := ⟨by decide +kernel, rfl⟩
theorem eL_law_439 : Dc cL_law 439 (.iload_n 3) 1 440 := ⟨by decide +kernel, rfl⟩
theorem eL_law_440 : Dc cL_law 440 (.iconst 2) 1 441 := ⟨by decide +kernel, rfl⟩
theorem eL_law_441 : Dc cL_law 441 .iadd 1 442 := ⟨by decide +kernel, rfl⟩
theorem eL_law_442 : Dc cL_law 442 .iaload 1 443 := ⟨by decide +kernel, rfl⟩
theorem eL_law_443 : Dc cL_law 443 (.invokevirtual 58) 3 446 := ⟨by decide +kernel, rfl⟩
theorem eL_law_446 : Dc cL_law 446 (.aload_n 2) 1 447 := ⟨by decide +kernel, rfl⟩
theorem eL_law_447 : Dc cL_law 447 (.aload_n 0) 1 448 := ⟨by decide +kernel, rfl⟩
theorem eL_law_448 : Dc cL_law 448 (.iload_n 3) 1 449 := ⟨by decide +kernel, rfl⟩
theorem eL_law_449 : Dc cL_law 449 (.iconst 1) 1 450 := ⟨by decide +kernel, rfl⟩
theorem eL_law_450 : Dc cL_law 450 .iadd 1 451 := ⟨by decide +kernel, rfl⟩
theorem eL_law_451 : Dc cL_law 451 .iaload 1 452 := ⟨by decide +kernel, rfl⟩
theorem eL_law_452 : Dc cL_law 452 (.aload_n 0) 1 453 := ⟨by decide +kernel, rfl⟩
theorem eL_law_453 : Dc cL_law 453 (.iload_n 3) 1 454 := ⟨by decide +kernel, rfl⟩
theorem eL_law_454 : Dc cL_law 454 (.iconst 2) 1 455 := ⟨by decide +kernel, rfl⟩
theorem eL_law_455 : Dc cL_law 455 .iadd 1 456 := ⟨by decide +kernel, rfl⟩
theorem eL_law_456 : Dc cL_law 456 .iaload 1 457 := ⟨by decide +kernel, rfl⟩
theorem eL_law_457 : Dc cL_law 457 (.invokevirtual 61) 3 460 := ⟨by decide +kernel, rfl⟩
theorem eL_law_460 : Dc cL_law 460 (.if_icmp .eq 196) 3 463 := ⟨by decide +kernel, rfl⟩
theorem eL_law_463 : Dc cL_law 463 (.iconst 0) 1 464 := ⟨by decide +kernel, rfl⟩
theorem eL_law_464 : Dc cL_law 464 .ireturn 1 465 := ⟨by decide +kernel, rfl⟩
theorem eL_law_465 : Dc cL_law 465 (.aload_n 1) 1 466 := ⟨by decide +kernel, rfl⟩
theorem eL_law_466 : Dc cL_law 466 (.invokevirtual 62) 3 469 := ⟨by decide +kernel, rfl⟩
theorem eL_law_469 : Dc cL_law 469 (.aload_n 2) 1 470 := ⟨by decide +kernel, rfl⟩
theorem eL_law_470 : Dc cL_law 470 (.invokevirtual 65) 3 473 := ⟨by decide +kernel, rfl⟩
theorem eL_law_473 : Dc cL_law 473 (.if_icmp .eq 183) 3 476 := ⟨by decide +kernel, rfl⟩
theorem eL_law_476 : Dc cL_law 476 (.iconst 0) 1 477 := ⟨by decide +kernel, rfl⟩
theorem eL_law_477 : Dc cL_law 477 .ireturn 1 478 := ⟨by decide +kernel, rfl⟩
theorem eL_law_478 : Dc cL_law 478 (.aload_n 1) 1 479 := ⟨by decide +kernel, rfl⟩
theorem eL_law_479 : Dc cL_law 479 (.aload_n 0) 1 480 := ⟨by decide +kernel, rfl⟩
theorem eL_law_480 : Dc cL_law 480 (.iload_n 3) 1 481 := ⟨by decide +kernel, rfl⟩
theorem eL_law_481 : Dc cL_law 481 (.iconst 1) 1 482 := ⟨by decide +kernel, rfl⟩
theorem eL_law_482 : Dc cL_law 482 .iadd 1 483 := ⟨by decide +kernel, rfl⟩
theorem eL_law_483 : Dc cL_law 483 .iaload 1 484 := ⟨by decide +kernel, rfl⟩
theorem eL_law_484 : Dc cL_law 484 (.invokevirtual 66) 3 487 := ⟨by decide +kernel, rfl⟩
theorem eL_law_487 : Dc cL_law 487 (.aload_n 2) 1 488 := ⟨by decide +kernel, rfl⟩
theorem eL_law_488 : Dc cL_law 488 (.aload_n 0) 1 489 := ⟨by decide +kernel, rfl⟩
theorem eL_law_489 : Dc cL_law 489 (.iload_n 3) 1 490 := ⟨by decide +kernel, rfl⟩
theorem eL_law_490 : Dc cL_law 490 (.iconst 1) 1 491 := ⟨by decide +kernel, rfl⟩
theorem eL_law_491 : Dc cL_law 491 .iadd 1 492 := ⟨by decide +kernel, rfl⟩
theorem eL_law_492 : Dc cL_law 492 .iaload 1 493 := ⟨by decide +kernel, rfl⟩
theorem eL_law_493 : Dc cL_law 493 (.invokevirtual 69) 3 496 := ⟨by decide +kernel, rfl⟩
theorem eL_law_496 : Dc cL_law 496 (.if_icmp .eq 160) 3 499 := ⟨by decide +kernel, rfl⟩
theorem eL_law_499 : Dc cL_law 499 (.iconst 0) 1 500 := ⟨by decide +kernel, rfl⟩
theorem eL_law_500 : Dc cL_law 500 .ireturn 1 501 := ⟨by decide +kernel, rfl⟩
theorem eL_law_501 : Dc cL_law 501 (.aload_n 1) 1 502 := ⟨by decide +kernel, rfl⟩
theorem eL_law_502 : Dc cL_law 502 (.aload_n 0) 1 503 := ⟨by decide +kernel, rfl⟩
theorem eL_law_503 : Dc cL_law 503 (.iload_n 3) 1 504 := ⟨by decide +kernel, rfl⟩
theorem eL_law_504 : Dc cL_law 504 (.iconst 1) 1 505 := ⟨by decide +kernel, rfl⟩
theorem eL_law_505 : Dc cL_law 505 .iadd 1 506 := ⟨by decide +kernel, rfl⟩
theorem eL_law_506 : Dc cL_law 506 .iaload 1 507 := ⟨by decide +kernel, rfl⟩
theorem eL_law_507 : Dc cL_law 507 (.aload_n 0) 1 508 := ⟨by decide +kernel, rfl⟩
theorem eL_law_508 : Dc cL_law 508 (.iload_n 3) 1 509 := ⟨by decide +kernel, rfl⟩
theorem eL_law_509 : Dc cL_law 509 (.iconst 2) 1 510 := ⟨by decide +kernel, rfl⟩
theorem eL_law_510 : Dc cL_law 510 .iadd 1 511 := ⟨by decide +kernel, rfl⟩
theorem eL_law_511 : Dc cL_law 511 .iaload 1 512 := ⟨by decide +kernel, rfl⟩
theorem eL_law_512 : Dc cL_law 512 (.invokevirtual 70) 3 515 := ⟨by decide +kernel, rfl⟩
theorem eL_law_515 : Dc cL_law 515 (.aload_n 2) 1 516 := ⟨by decide +kernel, rfl⟩
theorem eL_law_516 : Dc cL_law 516 (.aload_n 0) 1 517 := ⟨by decide +kernel, rfl⟩
theorem eL_law_517 : Dc cL_law 517 (.iload_n 3) 1 518 := ⟨by decide +kernel, rfl⟩
theorem eL_law_518 : Dc cL_law 518 (.iconst 1) 1 519 := ⟨by decide +kernel, rfl⟩
theorem eL_law_519 : Dc cL_law 519 .iadd 1 520 := ⟨by decide +kernel, rfl⟩
theorem eL_law_520 : Dc cL_law 520 .iaload 1 521 := ⟨by decide +kernel, rfl⟩
theorem eL_law_521 : Dc cL_law 521 (.aload_n 0) 1 522 := ⟨by decide +kernel, rfl⟩
theorem eL_law_522 : Dc cL_law 522 (.iload_n 3) 1 523 := ⟨by decide +kernel, rfl⟩
theorem eL_law_523 : Dc cL_law 523 (.iconst 2) 1 524 := ⟨by decide +kernel, rfl⟩
theorem eL_law_524 : Dc cL_law 524 .iadd 1 525 := ⟨by decide +kernel, rfl⟩
theorem eL_law_525 : Dc cL_law 525 .iaload 1 526 := ⟨by decide +kernel, rfl⟩
theorem eL_law_526 : Dc cL_law 526 (.invokevirtual 73) 3 529 := ⟨by decide +kernel, rfl⟩
theorem eL_law_529 : Dc cL_law 529 (.if_icmp .eq 127) 3 532 := ⟨by decide +kernel, rfl⟩
theorem eL_law_532 : Dc cL_law 532 (.iconst 0) 1 533 := ⟨by decide +kernel, rfl⟩
theorem eL_law_533 : Dc cL_law 533 .ireturn 1 534 := ⟨by decide +kernel, rfl⟩
theorem eL_law_534 : Dc cL_law 534 (.aload_n 1) 1 535 := ⟨by decide +kernel, rfl⟩
theorem eL_law_535 : Dc cL_law 535 (.aload_n 0) 1 536 := ⟨by decide +kernel, rfl⟩
theorem eL_law_536 : Dc cL_law 536 (.iload_n 3) 1 537 := ⟨by decide +kernel, rfl⟩
theorem eL_law_537 : Dc cL_law 537 (.iconst 1) 1 538 := ⟨by decide +kernel, rfl⟩
theorem eL_law_538 : Dc cL_law 538 .iadd 1 539 := ⟨by decide +kernel, rfl⟩
theorem eL_law_539 : Dc cL_law 539 .iaload 1 540 := ⟨by decide +kernel, rfl⟩
theorem eL_law_540 : Dc cL_law 540 (.invokevirtual 74) 3 543 := ⟨by decide +kernel, rfl⟩
theorem eL_law_543 : Dc cL_law 543 (.aload_n 2) 1 544 := ⟨by decide +kernel, rfl⟩
theorem eL_law_544 : Dc cL_law 544 (.aload_n 0) 1 545 := ⟨by decide +kernel, rfl⟩
theorem eL_law_545 : Dc cL_law 545 (.iload_n 3) 1 546 := ⟨by decide +kernel, rfl⟩
theorem eL_law_546 : Dc cL_law 546 (.iconst 1) 1 547 := ⟨by decide +kernel, rfl⟩
theorem eL_law_547 : Dc cL_law 547 .iadd 1 548 := ⟨by decide +kernel, rfl⟩
theorem eL_law_548 : Dc cL_law 548 .iaload 1 549 := ⟨by decide +kernel, rfl⟩
theorem eL_law_549 : Dc cL_law 549 (.invokevirtual 77) 3 552 := ⟨by decide +kernel, rfl⟩
theorem eL_law_552 : Dc cL_law 552 (.if_icmp .eq 104) 3 555 := ⟨by decide +kernel, rfl⟩
theorem eL_law_555 : Dc cL_law 555 (.iconst 0) 1 556 := ⟨by decide +kernel, rfl⟩
theorem eL_law_556 : Dc cL_law 556 .ireturn 1 557 := ⟨by decide +kernel, rfl⟩
theorem eL_law_557 : Dc cL_law 557 (.aload_n 1) 1 558 := ⟨by decide +kernel, rfl⟩
theorem eL_law_558 : Dc cL_law 558 (.aload_n 0) 1 559 := ⟨by decide +kernel, rfl⟩
theorem eL_law_559 : Dc cL_law 559 (.iload_n 3) 1 560 := ⟨by decide +kernel, rfl⟩
theorem eL_law_560 : Dc cL_law 560 (.iconst 1) 1 561 := ⟨by decide +kernel, rfl⟩
theorem eL_law_561 : Dc cL_law 561 .iadd 1 562 := ⟨by decide +kernel, rfl⟩
theorem eL_law_562 : Dc cL_law 562 .iaload 1 563 := ⟨by decide +kernel, rfl⟩
theorem eL_law_563 : Dc cL_law 563 (.invokevirtual 78) 3 566 := ⟨by decide +kernel, rfl⟩
theorem eL_law_566 : Dc cL_law 566 (.aload_n 2) 1 567 := ⟨by decide +kernel, rfl⟩
theorem eL_law_567 : Dc cL_law 567 (.aload_n 0) 1 568 := ⟨by decide +kernel, rfl⟩
theorem eL_law_568 : Dc cL_law 568 (.iload_n 3) 1 569 := ⟨by decide +kernel, rfl⟩
theorem eL_law_569 : Dc cL_law 569 (.iconst 1) 1 570 := ⟨by decide +kernel, rfl⟩
theorem eL_law_570 : Dc cL_law 570 .iadd 1 571 := ⟨by decide +kernel, rfl⟩
theorem eL_law_571 : Dc cL_law 571 .iaload 1 572 := ⟨by decide +kernel, rfl⟩
theorem eL_law_572 : Dc cL_law 572 (.invokevirtual 81) 3 575 := ⟨by decide +kernel, rfl⟩
theorem eL_law_575 : Dc cL_law 575 (.if_icmp .eq 81) 3 578 := ⟨by decide +kernel, rfl⟩
theorem eL_law_578 : Dc cL_law 578 (.iconst 0) 1 579 := ⟨by decide +kernel, rfl⟩
theorem eL_law_579 : Dc cL_law 579 .ireturn 1 580 := ⟨by decide +kernel, rfl⟩
theorem eL_law_580 : Dc cL_law 580 (.aload_n 1) 1 581 := ⟨by decide +kernel, rfl⟩
theorem eL_law_581 : Dc cL_law 581 (.invokevirtual 82) 3 584 := ⟨by decide +kernel, rfl⟩
theorem eL_law_584 : Dc cL_law 584 (.aload_n 2) 1 585 := ⟨by decide +kernel, rfl⟩
theorem eL_law_585 : Dc cL_law 585 (.invokevirtual 85) 3 588 := ⟨by decide +kernel, rfl⟩
theorem eL_law_588 : Dc cL_law 588 (.if_icmp .eq 68) 3 591 := ⟨by decide +kernel, rfl⟩
theorem eL_law_591 : Dc cL_law 591 (.iconst 0) 1 592 := ⟨by decide +kernel, rfl⟩
theorem eL_law_592 : Dc cL_law 592 .ireturn 1 593 := ⟨by decide +kernel, rfl⟩
theorem eL_law_593 : Dc cL_law 593 (.aload_n 1) 1 594 := ⟨by decide +kernel, rfl⟩
theorem eL_law_594 : Dc cL_law 594 (.invokevirtual 86) 3 597 := ⟨by decide +kernel, rfl⟩
theorem eL_law_597 : Dc cL_law 597 (.aload_n 2) 1 598 := ⟨by decide +kernel, rfl⟩
theorem eL_law_598 : Dc cL_law 598 (.invokevirtual 89) 3 601 := ⟨by decide +kernel, rfl⟩
theorem eL_law_601 : Dc cL_law 601 (.if_icmp .eq 55) 3 604 := ⟨by decide +kernel, rfl⟩
theorem eL_law_604 : Dc cL_law 604 (.iconst 0) 1 605 := ⟨by decide +kernel, rfl⟩
theorem eL_law_605 : Dc cL_law 605 .ireturn 1 606 := ⟨by decide +kernel, rfl⟩
theorem eL_law_606 : Dc cL_law 606 (.aload_n 1) 1 607 := ⟨by decide +kernel, rfl⟩
theorem eL_law_607 : Dc cL_law 607 (.invokevirtual 90) 3 610 := ⟨by decide +kernel, rfl⟩
theorem eL_law_610 : Dc cL_law 610 (.aload_n 2) 1 611 := ⟨by decide +kernel, rfl⟩
theorem eL_law_611 : Dc cL_law 611 (.invokevirtual 93) 3 614 := ⟨by decide +kernel, rfl⟩
theorem eL_law_614 : Dc cL_law 614 (.if_icmp .eq 42) 3 617 := ⟨by decide +kernel, rfl⟩
theorem eL_law_617 : Dc cL_law 617 (.iconst 0) 1 618 := ⟨by decide +kernel, rfl⟩
theorem eL_law_618 : Dc cL_law 618 .ireturn 1 619 := ⟨by decide +kernel, rfl⟩
theorem eL_law_619 : Dc cL_law 619 (.aload_n 1) 1 620 := ⟨by decide +kernel, rfl⟩
theorem eL_law_620 : Dc cL_law 620 (.aload_n 0) 1 621 := ⟨by decide +kernel, rfl⟩
theorem eL_law_621 : Dc cL_law 621 (.iload_n 3) 1 622 := ⟨by decide +kernel, rfl⟩
theorem eL_law_622 : Dc cL_law 622 (.iconst 1) 1 623 := ⟨by decide +kernel, rfl⟩
theorem eL_law_623 : Dc cL_law 623 .iadd 1 624 := ⟨by decide +kernel, rfl⟩
theorem eL_law_624 : Dc cL_law 624 .iaload 1 625 := ⟨by decide +kernel, rfl⟩
theorem eL_law_625 : Dc cL_law 625 (.invokevirtual 94) 3 628 := ⟨by decide +kernel, rfl⟩
theorem eL_law_628 : Dc cL_law 628 (.aload_n 2) 1 629 := ⟨by decide +kernel, rfl⟩
theorem eL_law_629 : Dc cL_law 629 (.aload_n 0) 1 630 := ⟨by decide +kernel, rfl⟩
theorem eL_law_630 : Dc cL_law 630 (.iload_n 3) 1 631 := ⟨by decide +kernel, rfl⟩
theorem eL_law_631 : Dc cL_law 631 (.iconst 1) 1 632 := ⟨by decide +kernel, rfl⟩
theorem eL_law_632 : Dc cL_law 632 .iadd 1 633 := ⟨by decide +kernel, rfl⟩
theorem eL_law_633 : Dc cL_law 633 .iaload 1 634 := ⟨by decide +kernel, rfl⟩
theorem eL_law_634 : Dc cL_law 634 (.invokevirtual 97) 3 637 := ⟨by decide +kernel, rfl⟩
theorem eL_law_637 : Dc cL_law 637 (.if_icmp .eq 19) 3 640 := ⟨by decide +kernel, rfl⟩
theorem eL_law_640 : Dc cL_law 640 (.iconst 0) 1 641 := ⟨by decide +kernel, rfl⟩
theorem eL_law_641 : Dc cL_law 641 .ireturn 1 642 := ⟨by decide +kernel, rfl⟩
theorem eL_law_642 : Dc cL_law 642 (.aload_n 1) 1 643 := ⟨by decide +kernel, rfl⟩
theorem eL_law_643 : Dc cL_law 643 (.invokevirtual 98) 3 646 := ⟨by decide +kernel, rfl⟩
theorem eL_law_646 : Dc cL_law 646 (.aload_n 2) 1 647 := ⟨by decide +kernel, rfl⟩
theorem eL_law_647 : Dc cL_law 647 (.invokevirtual 102) 3 650 := ⟨by decide +kernel, rfl⟩
theorem eL_law_650 : Dc cL_law 650 .lcmp 1 651 := ⟨by decide +kernel, rfl⟩
theorem eL_law_651 : Dc cL_law 651 (.ifCond .eq 5) 3 654 := ⟨by decide +kernel, rfl⟩
theorem eL_law_654 : Dc cL_law 654 (.iconst 0) 1 655 := ⟨by decide +kernel, rfl⟩
theorem eL_law_655 : Dc cL_law 655 .ireturn 1 656 := ⟨by decide +kernel, rfl⟩
theorem eL_law_656 : Dc cL_law 656 (.iinc 3 5) 3 659 := ⟨by decide +kernel, rfl⟩
theorem eL_law_659 : Dc cL_law 659 (.goto (-641)) 3 662 := ⟨by decide +kernel, rfl⟩
theorem eL_law_662 : Dc cL_law 662 (.iconst 1) 1 663 := ⟨by decide +kernel, rfl⟩
theorem eL_law_663 : Dc cL_law 663 .ireturn 1 664 := ⟨by decide +kernel, rfl⟩
def f_L_law_18 (L : Nat) (xs : Nat → Int32) : Nat → Int32 → HS → Option (Int32 × HS)
  | 0, _, _ => none
  | n + 1, x3, σ =>
    if ((Int32.ofNat L) - 5) < x3 then
      some (1, σ)
    else
      (ldI xs L x3).bind fun v1 =>
      if (v1 &&& 31) = 0 then
        (ldI xs L (x3 + 1)).bind fun v2 =>
        (ldI xs L (x3 + 2)).bind fun v3 =>
        (ldI xs L (x3 + 3)).bind fun v4 =>
        (ldI xs L (x3 + 4)).bind fun v5 =>
        (f_X8_kind v2 v3 v4 v5 σ).bind fun q6 =>
        (ldI xs L (x3 + 1)).bind fun v7 =>
        (ldI xs L (x3 + 2)).bind fun v8 =>
        (ldI xs L (x3 + 3)).bind fun v9 =>
        (ldI xs L (x3 + 4)).bind fun v10 =>
        (f_X9_kind v7 v8 v9 v10 q6.2).bind fun q11 =>
        if q6.1 = q11.1 then
          f_L_law_18 L xs n (x3 + 5) q11.2
        else
          some (0, q11.2)
      else if (v1 &&& 31) = 1 then
        (ldI xs L (x3 + 1)).bind fun v12 =>
        (ldI xs L (x3 + 2)).bind fun v13 =>
        (f_X8_sets v12 v13 σ).bind fun q14 =>
        (ldI xs L (x3 + 1)).bind fun v15 =>
        (ldI xs L (x3 + 2)).bind fun v16 =>
        (f_X9_sets v15 v16 q14.2).bind fun q17 =>
        if q14.1 = q17.1 then
          f_L_law_18 L xs n (x3 + 5) q17.2
        else
          some (0, q17.2)
      else if (v1 &&& 31) = 2 then
        (ldI xs L (x3 + 1)).bind fun v18 =>
        (ldI xs L (x3 + 2)).bind fun v19 =>
        (f_X8_of v18 v19 σ).bind fun q20 =>
        (ldI xs L (x3 + 1)).bind fun v21 =>
        (ldI xs L (x3 + 2)).bind fun v22 =>
        (f_X9_of v21 v22 q20.2).bind fun q23 =>
        if q20.1 = q23.1 then
          f_L_law_18 L xs n (x3 + 5) q23.2
        else
          some (0, q23.2)
      else if (v1 &&& 31) = 3 then
        (f_X8_states σ).bind fun q24 =>
        (f_X9_states q24.2).bind fun q25 =>
        if q24.1 = q25.1 then
          f_L_law_18 L xs n (x3 + 5) q25.2
        else
          some (0, q25.2)
      else if (v1 &&& 31) = 4 then
        (ldI xs L (x3 + 1)).bind fun v26 =>
        (ldI xs L (x3 + 2)).bind fun v27 =>
        (f_X8_state v26 v27 σ).bind fun q28 =>
        (ldI xs L (x3 + 1)).bind fun v29 =>
        (ldI xs L (x3 + 2)).bind fun v30 =>
        (f_X9_state v29 v30 q28.2).bind fun q31 =>
        if q28.1 = q31.1 then
          f_L_law_18 L xs n (x3 + 5) q31.2
        else
          some (0, q31.2)
      else if (v1 &&& 31) = 5 then
        (f_X8_classes σ).bind fun q32 =>
        (f_X9_classes q32.2).bind fun q33 =>
        if q32.1 = q33.1 then
          f_L_law_18 L xs n (x3 + 5) q33.2
        else
          some (0, q33.2)
      else if (v1 &&& 31) = 6 then
        (ldI xs L (x3 + 1)).bind fun v34 =>
        (ldI xs L (x3 + 2)).bind fun v35 =>
        (f_X8_alike v34 v35 σ).bind fun q36 =>
        (ldI xs L (x3 + 1)).bind fun v37 =>
        (ldI xs L (x3 + 2)).bind fun v38 =>
        (f_X9_alike v37 v38 q36.2).bind fun q39 =>
        if q36.1 = q39.1 then
          f_L_law_18 L xs n (x3 + 5) q39.2
        else
          some (0, q39.2)
      else if (v1 &&& 31) = 7 then
        (ldI xs L (x3 + 1)).bind fun v40 =>
        (f_X8_instruction v40 σ).bind fun q41 =>
        (ldI xs L (x3 + 1)).bind fun v42 =>
        (f_X9_instruction v42 q41.2).bind fun q43 =>
        if q41.1 = q43.1 then
          f_L_law_18 L xs n (x3 + 5) q43.2
        else
          some (0, q43.2)
      else if (v1 &&& 31) = 8 then
        (ldI xs L (x3 + 1)).bind fun v44 =>
        (ldI xs L (x3 + 2)).bind fun v45 =>
        (ldI xs L (x3 + 3)).bind fun v46 =>
        (f_X8_needs v44 v45 v46 σ).bind fun q47 =>
        (ldI xs L (x3 + 1)).bind fun v48 =>
        (ldI xs L (x3 + 2)).bind fun v49 =>
        (ldI xs L (x3 + 3)).bind fun v50 =>
        (f_X9_needs v48 v49 v50 q47.2).bind fun q51 =>
        if q47.1 = q51.1 then
          f_L_law_18 L xs n (x3 + 5) q51.2
        else
          some (0, q51.2)
      else if (v1 &&& 31) = 9 then
        (ldI xs L (x3 + 1)).bind fun v52 =>
        (f_X8_drops v52 σ).bind fun q53 =>
        (ldI xs L (x3 + 1)).bind fun v54 =>
        (f_X9_drops v54 q53.2).bind fun q55 =>
        if q53.1 = q55.1 then
          f_L_law_18 L xs n (x3 + 5) q55.2
        else
          some (0, q55.2)
      else if (v1 &&& 31) = 10 then
        (ldI xs L (x3 + 1)).bind fun v56 =>
        (ldI xs L (x3 + 2)).bind fun v57 =>
        (f_X8_about v56 v57 σ).bind fun q58 =>
        (ldI xs L (x3 + 1)).bind fun v59 =>
        (ldI xs L (x3 + 2)).bind fun v60 =>
        (f_X9_about v59 v60 q58.2).bind fun q61 =>
        if q58.1 = q61.1 then
          f_L_law_18 L xs n (x3 + 5) q61.2
        else
          some (0, q61.2)
      else if (v1 &&& 31) = 11 then
        (f_X8_bound σ).bind fun q62 =>
        (f_X9_bound q62.2).bind fun q63 =>
        if q62.1 = q63.1 then
          f_L_law_18 L xs n (x3 + 5) q63.2
        else
          some (0, q63.2)
      else if (v1 &&& 31) = 12 then
        (ldI xs L (x3 + 1)).bind fun v64 =>
        (f_X8_best v64 σ).bind fun q65 =>
        (ldI xs L (x3 + 1)).bind fun v66 =>
        (f_X9_best v66 q65.2).bind fun q67 =>
        if q65.1 = q67.1 then
          f_L_law_18 L xs n (x3 + 5) q67.2
        else
          some (0, q67.2)
      else if (v1 &&& 31) = 13 then
        (ldI xs L (x3 + 1)).bind fun v68 =>
        (ldI xs L (x3 + 2)).bind fun v69 =>
        (f_X8_ranked v68 v69 σ).bind fun q70 =>
        (ldI xs L (x3 + 1)).bind fun v71 =>
        (ldI xs L (x3 + 2)).bind fun v72 =>
        (f_X9_ranked v71 v72 q70.2).bind fun q73 =>
        if q70.1 = q73.1 then
          f_L_law_18 L xs n (x3 + 5) q73.2
        else
          some (0, q73.2)
      else if (v1 &&& 31) = 14 then
        (ldI xs L (x3 + 1)).bind fun v74 =>
        (f_X8_plan v74 σ).bind fun q75 =>
        (ldI xs L (x3 + 1)).bind fun v76 =>
        (f_X9_plan v76 q75.2).bind fun q77 =>
        if q75.1 = q77.1 then
          f_L_law_18 L xs n (x3 + 5) q77.2
        else
          some (0, q77.2)
      else if (v1 &&& 31) = 15 then
        (ldI xs L (x3 + 1)).bind fun v78 =>
        (f_X8_type v78 σ).bind fun q79 =>
        (ldI xs L (x3 + 1)).bind fun v80 =>
        (f_X9_type v80 q79.2).bind fun q81 =>
        if q79.1 = q81.1 then
          f_L_law_18 L xs n (x3 + 5) q81.2
        else
          some (0, q81.2)
      else if (v1 &&& 31) = 16 then
        (f_X8_clear σ).bind fun q82 =>
        (f_X9_clear q82.2).bind fun q83 =>
        if q82.1 = q83.1 then
          f_L_law_18 L xs n (x3 + 5) q83.2
        else
          some (0, q83.2)
      else if (v1 &&& 31) = 17 then
        (f_X8_reads σ).bind fun q84 =>
        (f_X9_reads q84.2).bind fun q85 =>
        if q84.1 = q85.1 then
          f_L_law_18 L xs n (x3 + 5) q85.2
        else
          some (0, q85.2)
      else if (v1 &&& 31) = 18 then
        (f_X8_back σ).bind fun q86 =>
        (f_X9_back q86.2).bind fun q87 =>
        if q86.1 = q87.1 then
          f_L_law_18 L xs n (x3 + 5) q87.2
        else
          some (0, q87.2)
      else if (v1 &&& 31) = 19 then
        (ldI xs L (x3 + 1)).bind fun v88 =>
        (f_X8_told v88 σ).bind fun q89 =>
        (ldI xs L (x3 + 1)).bind fun v90 =>
        (f_X9_told v90 q89.2).bind fun q91 =>
        if q89.1 = q91.1 then
          f_L_law_18 L xs n (x3 + 5) q91.2
        else
          some (0, q91.2)
      else if (v1 &&& 31) = 20 then
        (f_X8_digest σ).bind fun q92 =>
        (f_X9_digest q92.2).bind fun q93 =>
        if (lg_cmp q92.1 q93.1) = 0 then
          f_L_law_18 L xs n (x3 + 5) q93.2
        else
          some (0, q93.2)
      else 
        f_L_law_18 L xs n (x3 + 5) σ
set_option maxRecDepth 20000 in
theorem w_L_law_18 {b L : Nat} {xs : Nat → Int32} {p : Int32 × HS} (hp : p.1 = 1) : ∀ (n : Nat) (x3 : Int32) (σ : HS), f_L_law_18 L xs n x3 σ = some p → PW RL cL_law 4 (hs_zL b L xs) 18 [some (.ref 84), some (.ref 0), some (.ref 67), some (.int x3)] [] σ := by
  intro n
  induction n with
  | zero =>
    intro x3 σ h
    rw [f_L_law_18] at h
    cases h
  | succ n ih =>
    intro x3 σ h
    rw [f_L_law_18] at h
    refine pw_iload_n eL_law_18 rfl ?_
    refine pw_aload_n eL_law_19 rfl ?_
    refine pw_slen eL_law_20 ?_
    refine pw_iconst eL_law_21 ki_5 ?_
    refine pw_isub eL_law_22 ?_
    refine pw_icmp_gt (tgt := 662) eL_law_23 (by decide) (fun c => ?_) (fun c => ?_)
    · have h := hs_it c h
      refine pw_iconst eL_law_662 ki_1 ?_
      exact pw_Lret eL_law_663
    · have h := hs_ie c h
      refine pw_aload_n eL_law_26 rfl ?_
      refine pw_iload_n eL_law_27 rfl ?_
      obtain ⟨v1, g, h⟩ := hs_bind h
      refine pw_sld eL_law_28 g ?_
      refine pw_bipush eL_law_29 kb_31 ?_
      refine pw_iand eL_law_31 ?_
      by_cases c0 : (v1 &&& 31) = 0
      · have h := hs_it c0 h
        refine pw_tin (pc' := 132) eL_law_32 (by rw [c0]; decide) (by rw [c0]; decide) (by rw [c0]; rfl) (by decide) ?_
        refine pw_aload_n eL_law_132 rfl ?_
        refine pw_aload_n eL_law_133 rfl ?_
        refine pw_iload_n eL_law_134 rfl ?_
        refine pw_iconst eL_law_135 ki_1 ?_
        refine pw_iadd eL_law_136 ?_
        obtain ⟨v2, g, h⟩ := hs_bind h
        refine pw_sld eL_law_137 g ?_
        refine pw_aload_n eL_law_138 rfl ?_
        refine pw_iload_n eL_law_139 rfl ?_
        refine pw_iconst eL_law_140 ki_2 ?_
        refine pw_iadd eL_law_141 ?_
        obtain ⟨v3, g, h⟩ := hs_bind h
        refine pw_sld eL_law_142 g ?_
        refine pw_aload_n eL_law_143 rfl ?_
        refine pw_iload_n eL_law_144 rfl ?_
        refine pw_iconst eL_law_145 ki_3 ?_
        refine pw_iadd eL_law_146 ?_
        obtain ⟨v4, g, h⟩ := hs_bind h
        refine pw_sld eL_law_147 g ?_
        refine pw_aload_n eL_law_148 rfl ?_
        refine pw_iload_n eL_law_149 rfl ?_
        refine pw_iconst eL_law_150 ki_4 ?_
        refine pw_iadd eL_law_151 ?_
        obtain ⟨v5, g, h⟩ := hs_bind h
        refine pw_sld eL_law_152 g ?_
        obtain ⟨q6, g, h⟩ := hs_bind h
        refine pw_LV4i eL_law_153 mv_L_13 ob_0 (s_X8_kind g) (Nat.le_of_ble_eq_true rfl) ?_
        refine pw_aload_n eL_law_156 rfl ?_
        refine pw_aload_n eL_law_157 rfl ?_
        refine pw_iload_n eL_law_158 rfl ?_
        refine pw_iconst eL_law_159 ki_1 ?_
        refine pw_iadd eL_law_160 ?_
        obtain ⟨v7, g, h⟩ := hs_bind h
        refine pw_sld eL_law_161 g ?_
        refine pw_aload_n eL_law_162 rfl ?_
        refine pw_iload_n eL_law_163 rfl ?_
        refine pw_iconst eL_law_164 ki_2 ?_
        refine pw_iadd eL_law_165 ?_
        obtain ⟨v8, g, h⟩ := hs_bind h
        refine pw_sld eL_law_166 g ?_
        refine pw_aload_n eL_law_167 rfl ?_
        refine pw_iload_n eL_law_168 rfl ?_
        refine pw_iconst eL_law_169 ki_3 ?_
        refine pw_iadd eL_law_170 ?_
        obtain ⟨v9, g, h⟩ := hs_bind h
        refine pw_sld eL_law_171 g ?_
        refine pw_aload_n eL_law_172 rfl ?_
        refine pw_iload_n eL_law_173 rfl ?_
        refine pw_iconst eL_law_174 ki_4 ?_
        refine pw_iadd eL_law_175 ?_
        obtain ⟨v10, g, h⟩ := hs_bind h
        refine pw_sld eL_law_176 g ?_
        obtain ⟨q11, g, h⟩ := hs_bind h
        refine pw_LV4i eL_law_177 mv_L_17 ob_67 (s_X9_kind g) (Nat.le_of_ble_eq_true rfl) ?_
        refine pw_icmp_eq (tgt := 656) eL_law_180 (by decide) (fun c => ?_) (fun c => ?_)
        · have h := hs_it c h
          refine pw_iinc eL_law_656 (by decide) rfl ki_5 rfl rfl ?_
          refine pw_goto (pc' := 18) eL_law_659 (by decide) ?_
          exact ih (x3 + 5) q11.2 h
        · have h := hs_ie c h
          refine pw_iconst eL_law_183 ki_0 ?_
          exact absurd hp (hs_no0 h)
      have h := hs_ie c0 h
      by_cases c1 : (v1 &&& 31) = 1
      · have h := hs_it c1 h
        refine pw_tin (pc' := 185) eL_law_32 (by rw [c1]; decide) (by rw [c1]; decide) (by rw [c1]; rfl) (by decide) ?_
        refine pw_aload_n eL_law_185 rfl ?_
        refine pw_aload_n eL_law_186 rfl ?_
        refine pw_iload_n eL_law_187 rfl ?_
        refine pw_iconst eL_law_188 ki_1 ?_
        refine pw_iadd eL_law_189 ?_
        obtain ⟨v12, g, h⟩ := hs_bind h
        refine pw_sld eL_law_190 g ?_
        refine pw_aload_n eL_law_191 rfl ?_
        refine pw_iload_n eL_law_192 rfl ?_
        refine pw_iconst eL_law_193 ki_2 ?_
        refine pw_iadd eL_law_194 ?_
        obtain ⟨v13, g, h⟩ := hs_bind h
        refine pw_sld eL_law_195 g ?_
        obtain ⟨q14, g, h⟩ := hs_bind h
        refine pw_LV2i eL_law_196 mv_L_18 ob_0 (s_X8_sets g) (Nat.le_of_ble_eq_true rfl) ?_
        refine pw_aload_n eL_law_199 rfl ?_
        refine pw_aload_n eL_law_200 rfl ?_
        refine pw_iload_n eL_law_201 rfl ?_
        refine pw_iconst eL_law_202 ki_1 ?_
        refine pw_iadd eL_law_203 ?_
        obtain ⟨v15, g, h⟩ := hs_bind h
        refine pw_sld eL_law_204 g ?_
        refine pw_aload_n eL_law_205 rfl ?_
        refine pw_iload_n eL_law_206 rfl ?_
        refine pw_iconst eL_law_207 ki_2 ?_
        refine pw_iadd eL_law_208 ?_
        obtain ⟨v16, g, h⟩ := hs_bind h
        refine pw_sld eL_law_209 g ?_
        obtain ⟨q17, g, h⟩ := hs_bind h
        refine pw_LV2i eL_law_210 mv_L_22 ob_67 (s_X9_sets g) (Nat.le_of_ble_eq_true rfl) ?_
        refine pw_icmp_eq (tgt := 656) eL_law_213 (by decide) (fun c => ?_) (fun c => ?_)
        · have h := hs_it c h
          refine pw_iinc eL_law_656 (by decide) rfl ki_5 rfl rfl ?_
          refine pw_goto (pc' := 18) eL_law_659 (by decide) ?_
          exact ih (x3 + 5) q17.2 h
        · have h := hs_ie c h
          refine pw_iconst eL_law_216 ki_0 ?_
          exact absurd hp (hs_no0 h)
      have h := hs_ie c1 h
      by_cases c2 : (v1 &&& 31) = 2
      · have h := hs_it c2 h
        refine pw_tin (pc' := 218) eL_law_32 (by rw [c2]; decide) (by rw [c2]; decide) (by rw [c2]; rfl) (by decide) ?_
        refine pw_aload_n eL_law_218 rfl ?_
        refine pw_aload_n eL_law_219 rfl ?_
        refine pw_iload_n eL_law_220 rfl ?_
        refine pw_iconst eL_law_221 ki_1 ?_
        refine pw_iadd eL_law_222 ?_
        obtain ⟨v18, g, h⟩ := hs_bind h
        refine pw_sld eL_law_223 g ?_
        refine pw_aload_n eL_law_224 rfl ?_
        refine pw_iload_n eL_law_225 rfl ?_
        refine pw_iconst eL_law_226 ki_2 ?_
        refine pw_iadd eL_law_227 ?_
        obtain ⟨v19, g, h⟩ := hs_bind h
        refine pw_sld eL_law_228 g ?_
        obtain ⟨q20, g, h⟩ := hs_bind h
        refine pw_LV2i eL_law_229 mv_L_23 ob_0 (s_X8_of g) (Nat.le_of_ble_eq_true rfl) ?_
        refine pw_aload_n eL_law_232 rfl ?_
        refine pw_aload_n eL_law_233 rfl ?_
        refine pw_iload_n eL_law_234 rfl ?_
        refine pw_iconst eL_law_235 ki_1 ?_
        refine pw_iadd eL_law_236 ?_
        obtain ⟨v21, g, h⟩ := hs_bind h
        refine pw_sld eL_law_237 g ?_
        refine pw_aload_n eL_law_238 rfl ?_
        refine pw_iload_n eL_law_239 rfl ?_
        refine pw_iconst eL_law_240 ki_2 ?_
        refine pw_iadd eL_law_241 ?_
        obtain ⟨v22, g, h⟩ := hs_bind h
        refine pw_sld eL_law_242 g ?_
        obtain ⟨q23, g, h⟩ := hs_bind h
        refine pw_LV2i eL_law_243 mv_L_26 ob_67 (s_X9_of g) (Nat.le_of_ble_eq_true rfl) ?_
        refine pw_icmp_eq (tgt := 656) eL_law_246 (by decide) (fun c => ?_) (fun c => ?_)
        · have h := hs_it c h
          refine pw_iinc eL_law_656 (by decide) rfl ki_5 rfl rfl ?_
          refine pw_goto (pc' := 18) eL_law_659 (by decide) ?_
          exact ih (x3 + 5) q23.2 h
        · have h := hs_ie c h
          refine pw_iconst eL_law_249 ki_0 ?_
          exact absurd hp (hs_no0 h)
      have h := hs_ie c2 h
      by_cases c3 : (v1 &&& 31) = 3
      · have h := hs_it c3 h
        refine pw_tin (pc' := 251) eL_law_32 (by rw [c3]; decide) (by rw [c3]; decide) (by rw [c3]; rfl) (by decide) ?_
        refine pw_aload_n eL_law_251 rfl ?_
        obtain ⟨q24, g, h⟩ := hs_bind h
        refine pw_LV0i eL_law_252 mv_L_27 ob_0 (s_X8_states g) (Nat.le_of_ble_eq_true rfl) ?_
        refine pw_aload_n eL_law_255 rfl ?_
        obtain ⟨q25, g, h⟩ := hs_bind h
        refine pw_LV0i eL_law_256 mv_L_31 ob_67 (s_X9_states g) (Nat.le_of_ble_eq_true rfl) ?_
        refine pw_icmp_eq (tgt := 656) eL_law_259 (by decide) (fun c => ?_) (fun c => ?_)
        · have h := hs_it c h
          refine pw_iinc eL_law_656 (by decide) rfl ki_5 rfl rfl ?_
          refine pw_goto (pc' := 18) eL_law_659 (by decide) ?_
          exact ih (x3 + 5) q25.2 h
        · have h := hs_ie c h
          refine pw_iconst eL_law_262 ki_0 ?_
          exact absurd hp (hs_no0 h)
      have h := hs_ie c3 h
      by_cases c4 : (v1 &&& 31) = 4
      · have h := hs_it c4 h
        refine pw_tin (pc' := 264) eL_law_32 (by rw [c4]; decide) (by rw [c4]; decide) (by rw [c4]; rfl) (by decide) ?_
        refine pw_aload_n eL_law_264 rfl ?_
        refine pw_aload_n eL_law_265 rfl ?_
        refine pw_iload_n eL_law_266 rfl ?_
        refine pw_iconst eL_law_267 ki_1 ?_
        refine pw_iadd eL_law_268 ?_
        obtain ⟨v26, g, h⟩ := hs_bind h
        refine pw_sld eL_law_269 g ?_
        refine pw_aload_n eL_law_270 rfl ?_
        refine pw_iload_n eL_law_271 rfl ?_
        refine pw_iconst eL_law_272 ki_2 ?_
        refine pw_iadd eL_law_273 ?_
        obtain ⟨v27, g, h⟩ := hs_bind h
        refine pw_sld eL_law_274 g ?_
        obtain ⟨q28, g, h⟩ := hs_bind h
        refine pw_LV2i eL_law_275 mv_L_32 ob_0 (s_X8_state g) (Nat.le_of_ble_eq_true rfl) ?_
        refine pw_aload_n eL_law_278 rfl ?_
        refine pw_aload_n eL_law_279 rfl ?_
        refine pw_iload_n eL_law_280 rfl ?_
        refine pw_iconst eL_law_281 ki_1 ?_
        refine pw_iadd eL_law_282 ?_
        obtain ⟨v29, g, h⟩ := hs_bind h
        refine pw_sld eL_law_283 g ?_
        refine pw_aload_n eL_law_284 rfl ?_
        refine pw_iload_n eL_law_285 rfl ?_
        refine pw_iconst eL_law_286 ki_2 ?_
        refine pw_iadd eL_law_287 ?_
        obtain ⟨v30, g, h⟩ := hs_bind h
        refine pw_sld eL_law_288 g ?_
        obtain ⟨q31, g, h⟩ := hs_bind h
        refine pw_LV2i eL_law_289 mv_L_35 ob_67 (s_X9_state g) (Nat.le_of_ble_eq_true rfl) ?_
        refine pw_icmp_eq (tgt := 656) eL_law_292 (by decide) (fun c => ?_) (fun c => ?_)
        · have h := hs_it c h
          refine pw_iinc eL_law_656 (by decide) rfl ki_5 rfl rfl ?_
          refine pw_goto (pc' := 18) eL_law_659 (by decide) ?_
          exact ih (x3 + 5) q31.2 h
        · have h := hs_ie c h
          refine pw_iconst eL_law_295 ki_0 ?_
          exact absurd hp (hs_no0 h)
      have h := hs_ie c4 h
      by_cases c5 : (v1 &&& 31) = 5
      · have h := hs_it c5 h
        refine pw_tin (pc' := 297) eL_law_32 (by rw [c5]; decide) (by rw [c5]; decide) (by rw [c5]; rfl) (by decide) ?_
        refine pw_aload_n eL_law_297 rfl ?_
        obtain ⟨q32, g, h⟩ := hs_bind h
        refine pw_LV0i eL_law_298 mv_L_36 ob_0 (s_X8_classes g) (Nat.le_of_ble_eq_true rfl) ?_
        refine pw_aload_n eL_law_301 rfl ?_
        obtain ⟨q33, g, h⟩ := hs_bind h
        refine pw_LV0i eL_law_302 mv_L_39 ob_67 (s_X9_classes g) (Nat.le_of_ble_eq_true rfl) ?_
        refine pw_icmp_eq (tgt := 656) eL_law_305 (by decide) (fun c => ?_) (fun c => ?_)
        · have h := hs_it c h
          refine pw_iinc eL_law_656 (by decide) rfl ki_5 rfl rfl ?_
          refine pw_goto (pc' := 18) eL_law_659 (by decide) ?_
          exact ih (x3 + 5) q33.2 h
        · have h := hs_ie c h
          refine pw_iconst eL_law_308 ki_0 ?_
          exact absurd hp (hs_no0 h)
      have h := hs_ie c5 h
      by_cases c6 : (v1 &&& 31) = 6
      · have h := hs_it c6 h
        refine pw_tin (pc' := 310) eL_law_32 (by rw [c6]; decide) (by rw [c6]; decide) (by rw [c6]; rfl) (by decide) ?_
        refine pw_aload_n eL_law_310 rfl ?_
        refine pw_aload_n eL_law_311 rfl ?_
        refine pw_iload_n eL_law_312 rfl ?_
        refine pw_iconst eL_law_313 ki_1 ?_
        refine pw_iadd eL_law_314 ?_
        obtain ⟨v34, g, h⟩ := hs_bind h
        refine pw_sld eL_law_315 g ?_
        refine pw_aload_n eL_law_316 rfl ?_
        refine pw_iload_n eL_law_317 rfl ?_
        refine pw_iconst eL_law_318 ki_2 ?_
        refine pw_iadd eL_law_319 ?_
        obtain ⟨v35, g, h⟩ := hs_bind h
        refine pw_sld eL_law_320 g ?_
        obtain ⟨q36, g, h⟩ := hs_bind h
        refine pw_LV2i eL_law_321 mv_L_40 ob_0 (s_X8_alike g) (Nat.le_of_ble_eq_true rfl) ?_
        refine pw_aload_n eL_law_324 rfl ?_
        refine pw_aload_n eL_law_325 rfl ?_
        refine pw_iload_n eL_law_326 rfl ?_
        refine pw_iconst eL_law_327 ki_1 ?_
        refine pw_iadd eL_law_328 ?_
        obtain ⟨v37, g, h⟩ := hs_bind h
        refine pw_sld eL_law_329 g ?_
        refine pw_aload_n eL_law_330 rfl ?_
        refine pw_iload_n eL_law_331 rfl ?_
        refine pw_iconst eL_law_332 ki_2 ?_
        refine pw_iadd eL_law_333 ?_
        obtain ⟨v38, g, h⟩ := hs_bind h
        refine pw_sld eL_law_334 g ?_
        obtain ⟨q39, g, h⟩ := hs_bind h
        refine pw_LV2i eL_law_335 mv_L_43 ob_67 (s_X9_alike g) (Nat.le_of_ble_eq_true rfl) ?_
        refine pw_icmp_eq (tgt := 656) eL_law_338 (by decide) (fun c => ?_) (fun c => ?_)
        · have h := hs_it c h
          refine pw_iinc eL_law_656 (by decide) rfl ki_5 rfl rfl ?_
          refine pw_goto (pc' := 18) eL_law_659 (by decide) ?_
          exact ih (x3 + 5) q39.2 h
        · have h := hs_ie c h
          refine pw_iconst eL_law_341 ki_0 ?_
          exact absurd hp (hs_no0 h)
      have h := hs_ie c6 h
      by_cases c7 : (v1 &&& 31) = 7
      · have h := hs_it c7 h
        refine pw_tin (pc' := 343) eL_law_32 (by rw [c7]; decide) (by rw [c7]; decide) (by rw [c7]; rfl) (by decide) ?_
        refine pw_aload_n eL_law_343 rfl ?_
        refine pw_aload_n eL_law_344 rfl ?_
        refine pw_iload_n eL_law_345 rfl ?_
        refine pw_iconst eL_law_346 ki_1 ?_
        refine pw_iadd eL_law_347 ?_
        obtain ⟨v40, g, h⟩ := hs_bind h
        refine pw_sld eL_law_348 g ?_
        obtain ⟨q41, g, h⟩ := hs_bind h
        refine pw_LV1i eL_law_349 mv_L_44 ob_0 (s_X8_instruction g) (Nat.le_of_ble_eq_true rfl) ?_
        refine pw_aload_n eL_law_352 rfl ?_
        refine pw_aload_n eL_law_353 rfl ?_
        refine pw_iload_n eL_law_354 rfl ?_
        refine pw_iconst eL_law_355 ki_1 ?_
        refine pw_iadd eL_law_356 ?_
        obtain ⟨v42, g, h⟩ := hs_bind h
        refine pw_sld eL_law_357 g ?_
        obtain ⟨q43, g, h⟩ := hs_bind h
        refine pw_LV1i eL_law_358 mv_L_48 ob_67 (s_X9_instruction g) (Nat.le_of_ble_eq_true rfl) ?_
        refine pw_icmp_eq (tgt := 656) eL_law_361 (by decide) (fun c => ?_) (fun c => ?_)
        · have h := hs_it c h
          refine pw_iinc eL_law_656 (by decide) rfl ki_5 rfl rfl ?_
          refine pw_goto (pc' := 18) eL_law_659 (by decide) ?_
          exact ih (x3 + 5) q43.2 h
        · have h := hs_ie c h
          refine pw_iconst eL_law_364 ki_0 ?_
          exact absurd hp (hs_no0 h)
      have h := hs_ie c7 h
      by_cases c8 : (v1 &&& 31) = 8
      · have h := hs_it c8 h
        refine pw_tin (pc' := 366) eL_law_32 (by rw [c8]; decide) (by rw [c8]; decide) (by rw [c8]; rfl) (by decide) ?_
        refine pw_aload_n eL_law_366 rfl ?_
        refine pw_aload_n eL_law_367 rfl ?_
        refine pw_iload_n eL_law_368 rfl ?_
        refine pw_iconst eL_law_369 ki_1 ?_
        refine pw_iadd eL_law_370 ?_
        obtain ⟨v44, g, h⟩ := hs_bind h
        refine pw_sld eL_law_371 g ?_
        refine pw_aload_n eL_law_372 rfl ?_
        refine pw_iload_n eL_law_373 rfl ?_
        refine pw_iconst eL_law_374 ki_2 ?_
        refine pw_iadd eL_law_375 ?_
        obtain ⟨v45, g, h⟩ := hs_bind h
        refine pw_sld eL_law_376 g ?_
        refine pw_aload_n eL_law_377 rfl ?_
        refine pw_iload_n eL_law_378 rfl ?_
        refine pw_iconst eL_law_379 ki_3 ?_
        refine pw_iadd eL_law_380 ?_
        obtain ⟨v46, g, h⟩ := hs_bind h
        refine pw_sld eL_law_381 g ?_
        obtain ⟨q47, g, h⟩ := hs_bind h
        refine pw_LV3i eL_law_382 mv_L_49 ob_0 (s_X8_needs g) (Nat.le_of_ble_eq_true rfl) ?_
        refine pw_aload_n eL_law_385 rfl ?_
        refine pw_aload_n eL_law_386 rfl ?_
        refine pw_iload_n eL_law_387 rfl ?_
        refine pw_iconst eL_law_388 ki_1 ?_
        refine pw_iadd eL_law_389 ?_
        obtain ⟨v48, g, h⟩ := hs_bind h
        refine pw_sld eL_law_390 g ?_
        refine pw_aload_n eL_law_391 rfl ?_
        refine pw_iload_n eL_law_392 rfl ?_
        refine pw_iconst eL_law_393 ki_2 ?_
        refine pw_iadd eL_law_394 ?_
        obtain ⟨v49, g, h⟩ := hs_bind h
        refine pw_sld eL_law_395 g ?_
        refine pw_aload_n eL_law_396 rfl ?_
        refine pw_iload_n eL_law_397 rfl ?_
        refine pw_iconst eL_law_398 ki_3 ?_
        refine pw_iadd eL_law_399 ?_
        obtain ⟨v50, g, h⟩ := hs_bind h
        refine pw_sld eL_law_400 g ?_
        obtain ⟨q51, g, h⟩ := hs_bind h
        refine pw_LV3i eL_law_401 mv_L_53 ob_67 (s_X9_needs g) (Nat.le_of_ble_eq_true rfl) ?_
        refine pw_icmp_eq (tgt := 656) eL_law_404 (by decide) (fun c => ?_) (fun c => ?_)
        · have h := hs_it c h
          refine pw_iinc eL_law_656 (by decide) rfl ki_5 rfl rfl ?_
          refine pw_goto (pc' := 18) eL_law_659 (by decide) ?_
          exact ih (x3 + 5) q51.2 h
        · have h := hs_ie c h
          refine pw_iconst eL_law_407 ki_0 ?_
          exact absurd hp (hs_no0 h)
      have h := hs_ie c8 h
      by_cases c9 : (v1 &&& 31) = 9
      · have h := hs_it c9 h
        refine pw_tin (pc' := 409) eL_law_32 (by rw [c9]; decide) (by rw [c9]; decide) (by rw [c9]; rfl) (by decide) ?_
        refine pw_aload_n eL_law_409 rfl ?_
        refine pw_aload_n eL_law_410 rfl ?_
        refine pw_iload_n eL_law_411 rfl ?_
        refine pw_iconst eL_law_412 ki_1 ?_
        refine pw_iadd eL_law_413 ?_
        obtain ⟨v52, g, h⟩ := hs_bind h
        refine pw_sld eL_law_414 g ?_
        obtain ⟨q53, g, h⟩ := hs_bind h
        refine pw_LV1i eL_law_415 mv_L_54 ob_0 (s_X8_drops g) (Nat.le_of_ble_eq_true rfl) ?_
        refine pw_aload_n eL_law_418 rfl ?_
        refine pw_aload_n eL_law_419 rfl ?_
        refine pw_iload_n eL_law_420 rfl ?_
        refine pw_iconst eL_law_421 ki_1 ?_
        refine pw_iadd eL_law_422 ?_
        obtain ⟨v54, g, h⟩ := hs_bind h
        refine pw_sld eL_law_423 g ?_
        obtain ⟨q55, g, h⟩ := hs_bind h
        refine pw_LV1i eL_law_424 mv_L_57 ob_67 (s_X9_drops g) (Nat.le_of_ble_eq_true rfl) ?_
        refine pw_icmp_eq (tgt := 656) eL_law_427 (by decide) (fun c => ?_) (fun c => ?_)
        · have h := hs_it c h
          refine pw_iinc eL_law_656 (by decide) rfl ki_5 rfl rfl ?_
          refine pw_goto (pc' := 18) eL_law_659 (by decide) ?_
          exact ih (x3 + 5) q55.2 h
        · have h := hs_ie c h
          refine pw_iconst eL_law_430 ki_0 ?_
          exact absurd hp (hs_no0 h)
      have h := hs_ie c9 h
      by_cases c10 : (v1 &&& 31) = 10
      · have h := hs_it c10 h
        refine pw_tin (pc' := 432) eL_law_32 (by rw [c10]; decide) (by rw [c10]; decide) (by rw [c10]; rfl) (by decide) ?_
        refine pw_aload_n eL_law_432 rfl ?_
        refine pw_aload_n eL_law_433 rfl ?_
        refine pw_iload_n eL_law_434 rfl ?_
        refine pw_iconst eL_law_435 ki_1 ?_
        refine pw_iadd eL_law_436 ?_
        obtain ⟨v56, g, h⟩ := hs_bind h
        refine pw_sld eL_law_437 g ?_
        refine pw_aload_n eL_law_438 rfl ?_
        refine pw_iload_n eL_law_439 rfl ?_
        refine pw_iconst eL_law_440 ki_2 ?_
        refine pw_iadd eL_law_441 ?_
        obtain ⟨v57, g, h⟩ := hs_bind h
        refine pw_sld eL_law_442 g ?_
        obtain ⟨q58, g, h⟩ := hs_bind h
        refine pw_LV2i eL_law_443 mv_L_58 ob_0 (s_X8_about g) (Nat.le_of_ble_eq_true rfl) ?_
        refine pw_aload_n eL_law_446 rfl ?_
        refine pw_aload_n eL_law_447 rfl ?_
        refine pw_iload_n eL_law_448 rfl ?_
        refine pw_iconst eL_law_449 ki_1 ?_
        refine pw_iadd eL_law_450 ?_
        obtain ⟨v59, g, h⟩ := hs_bind h
        refine pw_sld eL_law_451 g ?_
        refine pw_aload_n eL_law_452 rfl ?_
        refine pw_iload_n eL_law_453 rfl ?_
        refine pw_iconst eL_law_454 ki_2 ?_
        refine pw_iadd eL_law_455 ?_
        obtain ⟨v60, g, h⟩ := hs_bind h
        refine pw_sld eL_law_456 g ?_
        obtain ⟨q61, g, h⟩ := hs_bind h
        refine pw_LV2i eL_law_457 mv_L_61 ob_67 (s_X9_about g) (Nat.le_of_ble_eq_true rfl) ?_
        refine pw_icmp_eq (tgt := 656) eL_law_460 (by decide) (fun c => ?_) (fun c => ?_)
        · have h := hs_it c h
          refine pw_iinc eL_law_656 (by decide) rfl ki_5 rfl rfl ?_
          refine pw_goto (pc' := 18) eL_law_659 (by decide) ?_
          exact ih (x3 + 5) q61.2 h
        · have h := hs_ie c h
          refine pw_iconst eL_law_463 ki_0 ?_
          exact absurd hp (hs_no0 h)
      have h := hs_ie c10 h
      by_cases c11 : (v1 &&& 31) = 11
      · have h := hs_it c11 h
        refine pw_tin (pc' := 465) eL_law_32 (by rw [c11]; decide) (by rw [c11]; decide) (by rw [c11]; rfl) (by decide) ?_
        refine pw_aload_n eL_law_465 rfl ?_
        obtain ⟨q62, g, h⟩ := hs_bind h
        refine pw_LV0i eL_law_466 mv_L_62 ob_0 (s_X8_bound g) (Nat.le_of_ble_eq_true rfl) ?_
        refine pw_aload_n eL_law_469 rfl ?_
        obtain ⟨q63, g, h⟩ := hs_bind h
        refine pw_LV0i eL_law_470 mv_L_65 ob_67 (s_X9_bound g) (Nat.le_of_ble_eq_true rfl) ?_
        refine pw_icmp_eq (tgt := 656) eL_law_473 (by decide) (fun c => ?_) (fun c => ?_)
        · have h := hs_it c h
          refine pw_iinc eL_law_656 (by decide) rfl ki_5 rfl rfl ?_
          refine pw_goto (pc' := 18) eL_law_659 (by decide) ?_
          exact ih (x3 + 5) q63.2 h
        · have h := hs_ie c h
          refine pw_iconst eL_law_476 ki_0 ?_
          exact absurd hp (hs_no0 h)
      have h := hs_ie c11 h
      by_cases c12 : (v1 &&& 31) = 12
      · have h := hs_it c12 h
        refine pw_tin (pc' := 478) eL_law_32 (by rw [c12]; decide) (by rw [c12]; decide) (by rw [c12]; rfl) (by decide) ?_
        refine pw_aload_n eL_law_478 rfl ?_
        refine pw_aload_n eL_law_479 rfl ?_
        refine pw_iload_n eL_law_480 rfl ?_
        refine pw_iconst eL_law_481 ki_1 ?_
        refine pw_iadd eL_law_482 ?_
        obtain ⟨v64, g, h⟩ := hs_bind h
        refine pw_sld eL_law_483 g ?_
        obtain ⟨q65, g, h⟩ := hs_bind h
        refine pw_LV1i eL_law_484 mv_L_66 ob_0 (s_X8_best g) (Nat.le_of_ble_eq_true rfl) ?_
        refine pw_aload_n eL_law_487 rfl ?_
        refine pw_aload_n eL_law_488 rfl ?_
        refine pw_iload_n eL_law_489 rfl ?_
        refine pw_iconst eL_law_490 ki_1 ?_
        refine pw_iadd eL_law_491 ?_
        obtain ⟨v66, g, h⟩ := hs_bind h
        refine pw_sld eL_law_492 g ?_
        obtain ⟨q67, g, h⟩ := hs_bind h
        refine pw_LV1i eL_law_493 mv_L_69 ob_67 (s_X9_best g) (Nat.le_of_ble_eq_true rfl) ?_
        refine pw_icmp_eq (tgt := 656) eL_law_496 (by decide) (fun c => ?_) (fun c => ?_)
        · have h := hs_it c h
          refine pw_iinc eL_law_656 (by decide) rfl ki_5 rfl rfl ?_
          refine pw_goto (pc' := 18) eL_law_659 (by decide) ?_
          exact ih (x3 + 5) q67.2 h
        · have h := hs_ie c h
          refine pw_iconst eL_law_499 ki_0 ?_
          exact absurd hp (hs_no0 h)
      have h := hs_ie c12 h
      by_cases c13 : (v1 &&& 31) = 13
      · have h := hs_it c13 h
        refine pw_tin (pc' := 501) eL_law_32 (by rw [c13]; decide) (by rw [c13]; decide) (by rw [c13]; rfl) (by decide) ?_
        refine pw_aload_n eL_law_501 rfl ?_
        refine pw_aload_n eL_law_502 rfl ?_
        refine pw_iload_n eL_law_503 rfl ?_
        refine pw_iconst eL_law_504 ki_1 ?_
        refine pw_iadd eL_law_505 ?_
        obtain ⟨v68, g, h⟩ := hs_bind h
        refine pw_sld eL_law_506 g ?_
        refine pw_aload_n eL_law_507 rfl ?_
        refine pw_iload_n eL_law_508 rfl ?_
        refine pw_iconst eL_law_509 ki_2 ?_
        refine pw_iadd eL_law_510 ?_
        obtain ⟨v69, g, h⟩ := hs_bind h
        refine pw_sld eL_law_511 g ?_
        obtain ⟨q70, g, h⟩ := hs_bind h
        refine pw_LV2i eL_law_512 mv_L_70 ob_0 (s_X8_ranked g) (Nat.le_of_ble_eq_true rfl) ?_
        refine pw_aload_n eL_law_515 rfl ?_
        refine pw_aload_n eL_law_516 rfl ?_
        refine pw_iload_n eL_law_517 rfl ?_
        refine pw_iconst eL_law_518 ki_1 ?_
        refine pw_iadd eL_law_519 ?_
        obtain ⟨v71, g, h⟩ := hs_bind h
        refine pw_sld eL_law_520 g ?_
        refine pw_aload_n eL_law_521 rfl ?_
        refine pw_iload_n eL_law_522 rfl ?_
        refine pw_iconst eL_law_523 ki_2 ?_
        refine pw_iadd eL_law_524 ?_
        obtain ⟨v72, g, h⟩ := hs_bind h
        refine pw_sld eL_law_525 g ?_
        obtain ⟨q73, g, h⟩ := hs_bind h
        refine pw_LV2i eL_law_526 mv_L_73 ob_67 (s_X9_ranked g) (Nat.le_of_ble_eq_true rfl) ?_
        refine pw_icmp_eq (tgt := 656) eL_law_529 (by decide) (fun c => ?_) (fun c => ?_)
        · have h := hs_it c h
          refine pw_iinc eL_law_656 (by decide) rfl ki_5 rfl rfl ?_
          refine pw_goto (pc' := 18) eL_law_659 (by decide) ?_
          exact ih (x3 + 5) q73.2 h
        · have h := hs_ie c h
          refine pw_iconst eL_law_532 ki_0 ?_
          exact absurd hp (hs_no0 h)
      have h := hs_ie c13 h
      by_cases c14 : (v1 &&& 31) = 14
      · have h := hs_it c14 h
        refine pw_tin (pc' := 534) eL_law_32 (by rw [c14]; decide) (by rw [c14]; decide) (by rw [c14]; rfl) (by decide) ?_
        refine pw_aload_n eL_law_534 rfl ?_
        refine pw_aload_n eL_law_535 rfl ?_
        refine pw_iload_n eL_law_536 rfl ?_
        refine pw_iconst eL_law_537 ki_1 ?_
        refine pw_iadd eL_law_538 ?_
        obtain ⟨v74, g, h⟩ := hs_bind h
        refine pw_sld eL_law_539 g ?_
        obtain ⟨q75, g, h⟩ := hs_bind h
        refine pw_LV1i eL_law_540 mv_L_74 ob_0 (s_X8_plan g) (Nat.le_of_ble_eq_true rfl) ?_
        refine pw_aload_n eL_law_543 rfl ?_
        refine pw_aload_n eL_law_544 rfl ?_
        refine pw_iload_n eL_law_545 rfl ?_
        refine pw_iconst eL_law_546 ki_1 ?_
        refine pw_iadd eL_law_547 ?_
        obtain ⟨v76, g, h⟩ := hs_bind h
        refine pw_sld eL_law_548 g ?_
        obtain ⟨q77, g, h⟩ := hs_bind h
        refine pw_LV1i eL_law_549 mv_L_77 ob_67 (s_X9_plan g) (Nat.le_of_ble_eq_true rfl) ?_
        refine pw_icmp_eq (tgt := 656) eL_law_552 (by decide) (fun c => ?_) (fun c => ?_)
        · have h := hs_it c h
          refine pw_iinc eL_law_656 (by decide) rfl ki_5 rfl rfl ?_
          refine pw_goto (pc' := 18) eL_law_659 (by decide) ?_
          exact ih (x3 + 5) q77.2 h
        · have h := hs_ie c h
          refine pw_iconst eL_law_555 ki_0 ?_
          exact absurd hp (hs_no0 h)
      have h := hs_ie c14 h
      by_cases c15 : (v1 &&& 31) = 15
      · have h := hs_it c15 h
        refine pw_tin (pc' := 557) eL_law_32 (by rw [c15]; decide) (by rw [c15]; decide) (by rw [c15]; rfl) (by decide) ?_
        refine pw_aload_n eL_law_557 rfl ?_
        refine pw_aload_n eL_law_558 rfl ?_
        refine pw_iload_n eL_law_559 rfl ?_
        refine pw_iconst eL_law_560 ki_1 ?_
        refine pw_iadd eL_law_561 ?_
        obtain ⟨v78, g, h⟩ := hs_bind h
        refine pw_sld eL_law_562 g ?_
        obtain ⟨q79, g, h⟩ := hs_bind h
        refine pw_LV1i eL_law_563 mv_L_78 ob_0 (s_X8_type g) (Nat.le_of_ble_eq_true rfl) ?_
        refine pw_aload_n eL_law_566 rfl ?_
        refine pw_aload_n eL_law_567 rfl ?_
        refine pw_iload_n eL_law_568 rfl ?_
        refine pw_iconst eL_law_569 ki_1 ?_
        refine pw_iadd eL_law_570 ?_
        obtain ⟨v80, g, h⟩ := hs_bind h
        refine pw_sld eL_law_571 g ?_
        obtain ⟨q81, g, h⟩ := hs_bind h
        refine pw_LV1i eL_law_572 mv_L_81 ob_67 (s_X9_type g) (Nat.le_of_ble_eq_true rfl) ?_
        refine pw_icmp_eq (tgt := 656) eL_law_575 (by decide) (fun c => ?_) (fun c => ?_)
        · have h := hs_it c h
          refine pw_iinc eL_law_656 (by decide) rfl ki_5 rfl rfl ?_
          refine pw_goto (pc' := 18) eL_law_659 (by decide) ?_
          exact ih (x3 + 5) q81.2 h
        · have h := hs_ie c h
          refine pw_iconst eL_law_578 ki_0 ?_
          exact absurd hp (hs_no0 h)
      have h := hs_ie c15 h
      by_cases c16 : (v1 &&& 31) = 16
      · have h := hs_it c16 h
        refine pw_tin (pc' := 580) eL_law_32 (by rw [c16]; decide) (by rw [c16]; decide) (by rw [c16]; rfl) (by decide) ?_
        refine pw_aload_n eL_law_580 rfl ?_
        obtain ⟨q82, g, h⟩ := hs_bind h
        refine pw_LV0i eL_law_581 mv_L_82 ob_0 (s_X8_clear g) (Nat.le_of_ble_eq_true rfl) ?_
        refine pw_aload_n eL_law_584 rfl ?_
        obtain ⟨q83, g, h⟩ := hs_bind h
        refine pw_LV0i eL_law_585 mv_L_85 ob_67 (s_X9_clear g) (Nat.le_of_ble_eq_true rfl) ?_
        refine pw_icmp_eq (tgt := 656) eL_law_588 (by decide) (fun c => ?_) (fun c => ?_)
        · have h := hs_it c h
          refine pw_iinc eL_law_656 (by decide) rfl ki_5 rfl rfl ?_
          refine pw_goto (pc' := 18) eL_law_659 (by decide) ?_
          exact ih (x3 + 5) q83.2 h
        · have h := hs_ie c h
          refine pw_iconst eL_law_591 ki_0 ?_
          exact absurd hp (hs_no0 h)
      have h := hs_ie c16 h
      by_cases c17 : (v1 &&& 31) = 17
      · have h := hs_it c17 h
        refine pw_tin (pc' := 593) eL_law_32 (by rw [c17]; decide) (by rw [c17]; decide) (by rw [c17]; rfl) (by decide) ?_
        refine pw_aload_n eL_law_593 rfl ?_
        obtain ⟨q84, g, h⟩ := hs_bind h
        refine pw_LV0i eL_law_594 mv_L_86 ob_0 (s_X8_reads g) (Nat.le_of_ble_eq_true rfl) ?_
        refine pw_aload_n eL_law_597 rfl ?_
        obtain ⟨q85, g, h⟩ := hs_bind h
        refine pw_LV0i eL_law_598 mv_L_89 ob_67 (s_X9_reads g) (Nat.le_of_ble_eq_true rfl) ?_
        refine pw_icmp_eq (tgt := 656) eL_law_601 (by decide) (fun c => ?_) (fun c => ?_)
        · have h := hs_it c h
          refine pw_iinc eL_law_656 (by decide) rfl ki_5 rfl rfl ?_
          refine pw_goto (pc' := 18) eL_law_659 (by decide) ?_
          exact ih (x3 + 5) q85.2 h
        · have h := hs_ie c h
          refine pw_iconst eL_law_604 ki_0 ?_
          exact absurd hp (hs_no0 h)
      have h := hs_ie c17 h
      by_cases c18 : (v1 &&& 31) = 18
      · have h := hs_it c18 h
        refine pw_tin (pc' := 606) eL_law_32 (by rw [c18]; decide) (by rw [c18]; decide) (by rw [c18]; rfl) (by decide) ?_
        refine pw_aload_n eL_law_606 rfl ?_
        obtain ⟨q86, g, h⟩ := hs_bind h
        refine pw_LV0i eL_law_607 mv_L_90 ob_0 (s_X8_back g) (Nat.le_of_ble_eq_true rfl) ?_
        refine pw_aload_n eL_law_610 rfl ?_
        obtain ⟨q87, g, h⟩ := hs_bind h
        refine pw_LV0i eL_law_611 mv_L_93 ob_67 (s_X9_back g) (Nat.le_of_ble_eq_true rfl) ?_
        refine pw_icmp_eq (tgt := 656) eL_law_614 (by decide) (fun c => ?_) (fun c => ?_)
        · have h := hs_it c h
          refine pw_iinc eL_law_656 (by decide) rfl ki_5 rfl rfl ?_
          refine pw_goto (pc' := 18) eL_law_659 (by decide) ?_
          exact ih (x3 + 5) q87.2 h
        · have h := hs_ie c h
          refine pw_iconst eL_law_617 ki_0 ?_
          exact absurd hp (hs_no0 h)
      have h := hs_ie c18 h
      by_cases c19 : (v1 &&& 31) = 19
      · have h := hs_it c19 h
        refine pw_tin (pc' := 619) eL_law_32 (by rw [c19]; decide) (by rw [c19]; decide) (by rw [c19]; rfl) (by decide) ?_
        refine pw_aload_n eL_law_619 rfl ?_
        refine pw_aload_n eL_law_620 rfl ?_
        refine pw_iload_n eL_law_621 rfl ?_
        refine pw_iconst eL_law_622 ki_1 ?_
        refine pw_iadd eL_law_623 ?_
        obtain ⟨v88, g, h⟩ := hs_bind h
        refine pw_sld eL_law_624 g ?_
        obtain ⟨q89, g, h⟩ := hs_bind h
        refine pw_LV1i eL_law_625 mv_L_94 ob_0 (s_X8_told g) (Nat.le_of_ble_eq_true rfl) ?_
        refine pw_aload_n eL_law_628 rfl ?_
        refine pw_aload_n eL_law_629 rfl ?_
        refine pw_iload_n eL_law_630 rfl ?_
        refine pw_iconst eL_law_631 ki_1 ?_
        refine pw_iadd eL_law_632 ?_
        obtain ⟨v90, g, h⟩ := hs_bind h
        refine pw_sld eL_law_633 g ?_
        obtain ⟨q91, g, h⟩ := hs_bind h
        refine pw_LV1i eL_law_634 mv_L_97 ob_67 (s_X9_told g) (Nat.le_of_ble_eq_true rfl) ?_
        refine pw_icmp_eq (tgt := 656) eL_law_637 (by decide) (fun c => ?_) (fun c => ?_)
        · have h := hs_it c h
          refine pw_iinc eL_law_656 (by decide) rfl ki_5 rfl rfl ?_
          refine pw_goto (pc' := 18) eL_law_659 (by decide) ?_
          exact ih (x3 + 5) q91.2 h
        · have h := hs_ie c h
          refine pw_iconst eL_law_640 ki_0 ?_
          exact absurd hp (hs_no0 h)
      have h := hs_ie c19 h
      by_cases c20 : (v1 &&& 31) = 20
      · have h := hs_it c20 h
        refine pw_tin (pc' := 642) eL_law_32 (by rw [c20]; decide) (by rw [c20]; decide) (by rw [c20]; rfl) (by decide) ?_
        refine pw_aload_n eL_law_642 rfl ?_
        obtain ⟨q92, g, h⟩ := hs_bind h
        refine pw_LV0l eL_law_643 mv_L_98 ob_0 (s_X8_digest g) (Nat.le_of_ble_eq_true rfl) ?_
        refine pw_aload_n eL_law_646 rfl ?_
        obtain ⟨q93, g, h⟩ := hs_bind h
        refine pw_LV0l eL_law_647 mv_L_102 ob_67 (s_X9_digest g) (Nat.le_of_ble_eq_true rfl) ?_
        refine pw_lcmp eL_law_650 ?_
        refine pw_if_eq (tgt := 656) eL_law_651 (by decide) (fun c => ?_) (fun c => ?_)
        · have h := hs_it c h
          refine pw_iinc eL_law_656 (by decide) rfl ki_5 rfl rfl ?_
          refine pw_goto (pc' := 18) eL_law_659 (by decide) ?_
          exact ih (x3 + 5) q93.2 h
        · have h := hs_ie c h
          refine pw_iconst eL_law_654 ki_0 ?_
          exact absurd hp (hs_no0 h)
      have h := hs_ie c20 h
      refine hs_cut ?_ (fun pd => ?_) (P := PW RL cL_law 4 (hs_zL b L xs) 656 [some (.ref 84), some (.ref 0), some (.ref 67), some (.int x3)] [] σ)
      rotate_left
      · rcases hs_sw (v1 &&& 31) 0 20 with o | o | o
        · exact pw_tout eL_law_32 (Or.inl o) (by decide) pd
        · exact pw_tout eL_law_32 (Or.inr o) (by decide) pd
        · have d0 := hs_nl (z := 0) c0 (by decide); have d1 := hs_nl (z := 1) c1 (by decide); have d2 := hs_nl (z := 2) c2 (by decide); have d3 := hs_nl (z := 3) c3 (by decide); have d4 := hs_nl (z := 4) c4 (by decide); have d5 := hs_nl (z := 5) c5 (by decide); have d6 := hs_nl (z := 6) c6 (by decide); have d7 := hs_nl (z := 7) c7 (by decide); have d8 := hs_nl (z := 8) c8 (by decide); have d9 := hs_nl (z := 9) c9 (by decide); have d10 := hs_nl (z := 10) c10 (by decide); have d11 := hs_nl (z := 11) c11 (by decide); have d12 := hs_nl (z := 12) c12 (by decide); have d13 := hs_nl (z := 13) c13 (by decide); have d14 := hs_nl (z := 14) c14 (by decide); have d15 := hs_nl (z := 15) c15 (by decide); have d16 := hs_nl (z := 16) c16 (by decide); have d17 := hs_nl (z := 17) c17 (by decide); have d18 := hs_nl (z := 18) c18 (by decide); have d19 := hs_nl (z := 19) c19 (by decide); have d20 := hs_nl (z := 20) c20 (by decide); skip
          exact absurd rfl (fun _ : (0 : Nat) = 0 => by omega)
      refine pw_iinc eL_law_656 (by decide) rfl ki_5 rfl rfl ?_
      refine pw_goto (pc' := 18) eL_law_659 (by decide) ?_
      exact ih (x3 + 5) σ h

