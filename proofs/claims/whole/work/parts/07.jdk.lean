def f_J9_max_7cf53 (x0 : Int32) (x1 : Int32) (σ : HS) : Option (Int32 × HS) :=
  if x0 < x1 then
    some (x1, σ)
  else
    some (x0, σ)
set_option maxRecDepth 20000 in
theorem s_J9_max_7cf53 {d : Nat} {x0 : Int32} {x1 : Int32} {σ : HS} {p : Int32 × HS} (h : f_J9_max_7cf53 x0 x1 σ = some p) : hs_Spec (d + 1) yJ9_max_7cf53 cJ9_max_7cf53 2 (some .int) [.int x0, .int x1] σ (some (.int p.1), p.2) := by
  refine hs_spec' (by decide +kernel) rfl (Nat.le_of_ble_eq_true rfl) ?_
  show PW RJ9 cJ9_max_7cf53 2 (hs_zM (d + 1) (some .int) (some (.int p.1), p.2)) 0 [some (.int x0), some (.int x1)] [] σ
  rw [f_J9_max_7cf53] at h
  refine pw_iload_n eJ9_max_7cf53_0 rfl ?_
  refine pw_iload_n eJ9_max_7cf53_1 rfl ?_
  refine pw_icmp_lt (tgt := 9) eJ9_max_7cf53_2 (by decide) (fun c => ?_) (fun c => ?_)
  · have h := hs_it c h
    refine pw_iload_n eJ9_max_7cf53_9 rfl ?_
    exact pw_iret' eJ9_max_7cf53_10 h
  · have h := hs_ie c h
    refine pw_iload_n eJ9_max_7cf53_5 rfl ?_
    refine pw_goto (pc' := 10) eJ9_max_7cf53_6 (by decide) ?_
    exact pw_iret' eJ9_max_7cf53_10 h

def f_J6_bitCount_0f7a4 (x0 : Int32) (σ : HS) : Option (Int32 × HS) :=
  some (((((((((x0 - ((((x0 : Int32).toUInt32 >>> ((1 : Int32).toUInt32 &&& Int32.toUInt32 31)).toInt32) &&& 1431655765)) &&& 858993459) + (((((x0 - ((((x0 : Int32).toUInt32 >>> ((1 : Int32).toUInt32 &&& Int32.toUInt32 31)).toInt32) &&& 1431655765)) : Int32).toUInt32 >>> ((2 : Int32).toUInt32 &&& Int32.toUInt32 31)).toInt32) &&& 858993459)) + ((((((x0 - ((((x0 : Int32).toUInt32 >>> ((1 : Int32).toUInt32 &&& Int32.toUInt32 31)).toInt32) &&& 1431655765)) &&& 858993459) + (((((x0 - ((((x0 : Int32).toUInt32 >>> ((1 : Int32).toUInt32 &&& Int32.toUInt32 31)).toInt32) &&& 1431655765)) : Int32).toUInt32 >>> ((2 : Int32).toUInt32 &&& Int32.toUInt32 31)).toInt32) &&& 858993459)) : Int32).toUInt32 >>> ((4 : Int32).toUInt32 &&& Int32.toUInt32 31)).toInt32)) &&& 252645135) + ((((((((x0 - ((((x0 : Int32).toUInt32 >>> ((1 : Int32).toUInt32 &&& Int32.toUInt32 31)).toInt32) &&& 1431655765)) &&& 858993459) + (((((x0 - ((((x0 : Int32).toUInt32 >>> ((1 : Int32).toUInt32 &&& Int32.toUInt32 31)).toInt32) &&& 1431655765)) : Int32).toUInt32 >>> ((2 : Int32).toUInt32 &&& Int32.toUInt32 31)).toInt32) &&& 858993459)) + ((((((x0 - ((((x0 : Int32).toUInt32 >>> ((1 : Int32).toUInt32 &&& Int32.toUInt32 31)).toInt32) &&& 1431655765)) &&& 858993459) + (((((x0 - ((((x0 : Int32).toUInt32 >>> ((1 : Int32).toUInt32 &&& Int32.toUInt32 31)).toInt32) &&& 1431655765)) : Int32).toUInt32 >>> ((2 : Int32).toUInt32 &&& Int32.toUInt32 31)).toInt32) &&& 858993459)) : Int32).toUInt32 >>> ((4 : Int32).toUInt32 &&& Int32.toUInt32 31)).toInt32)) &&& 252645135) : Int32).toUInt32 >>> ((8 : Int32).toUInt32 &&& Int32.toUInt32 31)).toInt32)) + (((((((((x0 - ((((x0 : Int32).toUInt32 >>> ((1 : Int32).toUInt32 &&& Int32.toUInt32 31)).toInt32) &&& 1431655765)) &&& 858993459) + (((((x0 - ((((x0 : Int32).toUInt32 >>> ((1 : Int32).toUInt32 &&& Int32.toUInt32 31)).toInt32) &&& 1431655765)) : Int32).toUInt32 >>> ((2 : Int32).toUInt32 &&& Int32.toUInt32 31)).toInt32) &&& 858993459)) + ((((((x0 - ((((x0 : Int32).toUInt32 >>> ((1 : Int32).toUInt32 &&& Int32.toUInt32 31)).toInt32) &&& 1431655765)) &&& 858993459) + (((((x0 - ((((x0 : Int32).toUInt32 >>> ((1 : Int32).toUInt32 &&& Int32.toUInt32 31)).toInt32) &&& 1431655765)) : Int32).toUInt32 >>> ((2 : Int32).toUInt32 &&& Int32.toUInt32 31)).toInt32) &&& 858993459)) : Int32).toUInt32 >>> ((4 : Int32).toUInt32 &&& Int32.toUInt32 31)).toInt32)) &&& 252645135) + ((((((((x0 - ((((x0 : Int32).toUInt32 >>> ((1 : Int32).toUInt32 &&& Int32.toUInt32 31)).toInt32) &&& 1431655765)) &&& 858993459) + (((((x0 - ((((x0 : Int32).toUInt32 >>> ((1 : Int32).toUInt32 &&& Int32.toUInt32 31)).toInt32) &&& 1431655765)) : Int32).toUInt32 >>> ((2 : Int32).toUInt32 &&& Int32.toUInt32 31)).toInt32) &&& 858993459)) + ((((((x0 - ((((x0 : Int32).toUInt32 >>> ((1 : Int32).toUInt32 &&& Int32.toUInt32 31)).toInt32) &&& 1431655765)) &&& 858993459) + (((((x0 - ((((x0 : Int32).toUInt32 >>> ((1 : Int32).toUInt32 &&& Int32.toUInt32 31)).toInt32) &&& 1431655765)) : Int32).toUInt32 >>> ((2 : Int32).toUInt32 &&& Int32.toUInt32 31)).toInt32) &&& 858993459)) : Int32).toUInt32 >>> ((4 : Int32).toUInt32 &&& Int32.toUInt32 31)).toInt32)) &&& 252645135) : Int32).toUInt32 >>> ((8 : Int32).toUInt32 &&& Int32.toUInt32 31)).toInt32)) : Int32).toUInt32 >>> ((16 : Int32).toUInt32 &&& Int32.toUInt32 31)).toInt32)) &&& 63), σ)
set_option maxRecDepth 20000 in
theorem s_J6_bitCount_0f7a4 {d : Nat} {x0 : Int32} {σ : HS} {p : Int32 × HS} (h : f_J6_bitCount_0f7a4 x0 σ = some p) : hs_Spec (d + 1) yJ6_bitCount_0f7a4 cJ6_bitCount_0f7a4 1 (some .int) [.int x0] σ (some (.int p.1), p.2) := by
  refine hs_spec' (by decide +kernel) rfl (Nat.le_of_ble_eq_true rfl) ?_
  show PW RJ6 cJ6_bitCount_0f7a4 1 (hs_zM (d + 1) (some .int) (some (.int p.1), p.2)) 0 [some (.int x0)] [] σ
  rw [f_J6_bitCount_0f7a4] at h
  refine pw_iload_n eJ6_bitCount_0f7a4_0 rfl ?_
  refine pw_iload_n eJ6_bitCount_0f7a4_1 rfl ?_
  refine pw_iconst eJ6_bitCount_0f7a4_2 ki_1 ?_
  refine pw_iushr eJ6_bitCount_0f7a4_3 ?_
  refine pw_ldcw eJ6_bitCount_0f7a4_4 kc_J6_265 ?_
  refine pw_iand eJ6_bitCount_0f7a4_7 ?_
  refine pw_isub eJ6_bitCount_0f7a4_8 ?_
  refine pw_istore_n eJ6_bitCount_0f7a4_9 rfl (by decide) rfl rfl ?_
  refine pw_iload_n eJ6_bitCount_0f7a4_10 rfl ?_
  refine pw_ldcw eJ6_bitCount_0f7a4_11 kc_J6_266 ?_
  refine pw_iand eJ6_bitCount_0f7a4_14 ?_
  refine pw_iload_n eJ6_bitCount_0f7a4_15 rfl ?_
  refine pw_iconst eJ6_bitCount_0f7a4_16 ki_2 ?_
  refine pw_iushr eJ6_bitCount_0f7a4_17 ?_
  refine pw_ldcw eJ6_bitCount_0f7a4_18 kc_J6_266 ?_
  refine pw_iand eJ6_bitCount_0f7a4_21 ?_
  refine pw_iadd eJ6_bitCount_0f7a4_22 ?_
  refine pw_istore_n eJ6_bitCount_0f7a4_23 rfl (by decide) rfl rfl ?_
  refine pw_iload_n eJ6_bitCount_0f7a4_24 rfl ?_
  refine pw_iload_n eJ6_bitCount_0f7a4_25 rfl ?_
  refine pw_iconst eJ6_bitCount_0f7a4_26 ki_4 ?_
  refine pw_iushr eJ6_bitCount_0f7a4_27 ?_
  refine pw_iadd eJ6_bitCount_0f7a4_28 ?_
  refine pw_ldcw eJ6_bitCount_0f7a4_29 kc_J6_267 ?_
  refine pw_iand eJ6_bitCount_0f7a4_32 ?_
  refine pw_istore_n eJ6_bitCount_0f7a4_33 rfl (by decide) rfl rfl ?_
  refine pw_iload_n eJ6_bitCount_0f7a4_34 rfl ?_
  refine pw_iload_n eJ6_bitCount_0f7a4_35 rfl ?_
  refine pw_bipush eJ6_bitCount_0f7a4_36 kb_8 ?_
  refine pw_iushr eJ6_bitCount_0f7a4_38 ?_
  refine pw_iadd eJ6_bitCount_0f7a4_39 ?_
  refine pw_istore_n eJ6_bitCount_0f7a4_40 rfl (by decide) rfl rfl ?_
  refine pw_iload_n eJ6_bitCount_0f7a4_41 rfl ?_
  refine pw_iload_n eJ6_bitCount_0f7a4_42 rfl ?_
  refine pw_bipush eJ6_bitCount_0f7a4_43 kb_16 ?_
  refine pw_iushr eJ6_bitCount_0f7a4_45 ?_
  refine pw_iadd eJ6_bitCount_0f7a4_46 ?_
  refine pw_istore_n eJ6_bitCount_0f7a4_47 rfl (by decide) rfl rfl ?_
  refine pw_iload_n eJ6_bitCount_0f7a4_48 rfl ?_
  refine pw_bipush eJ6_bitCount_0f7a4_49 kb_63 ?_
  refine pw_iand eJ6_bitCount_0f7a4_51 ?_
  exact pw_iret' eJ6_bitCount_0f7a4_52 h

def f_J7_fill_53178_5 : Nat → Int32 → Int32 → Int32 → HS → Option (HS)
  | 0, _, _, _, _ => none
  | n + 1, x1, x2, x3, σ =>
    if x3 ≤ x2 then
      some σ
    else
      (stI σ 51 6 x2 x1).bind fun σ1 =>
      f_J7_fill_53178_5 n x1 (x2 + 1) x3 σ1
set_option maxRecDepth 20000 in
theorem w_J7_fill_53178_5 {d : Nat} {p : HS} : ∀ (n : Nat) (x1 : Int32) (x2 : Int32) (x3 : Int32) (σ : HS), f_J7_fill_53178_5 n x1 x2 x3 σ = some p → PW RJ7 cJ7_fill_53178 4 (hs_zM (d + 1) none (none, p)) 5 [some (.ref 51), some (.int x1), some (.int x2), some (.int x3)] [] σ := by
  intro n
  induction n with
  | zero =>
    intro x1 x2 x3 σ h
    rw [f_J7_fill_53178_5] at h
    cases h
  | succ n ih =>
    intro x1 x2 x3 σ h
    rw [f_J7_fill_53178_5] at h
    refine pw_iload_n eJ7_fill_53178_5 rfl ?_
    refine pw_iload_n eJ7_fill_53178_6 rfl ?_
    refine pw_icmp_ge (tgt := 20) eJ7_fill_53178_7 (by decide) (fun c => ?_) (fun c => ?_)
    · have h := hs_it c h
      exact pw_vret' eJ7_fill_53178_20 h
    · have h := hs_ie c h
      refine pw_aload_n eJ7_fill_53178_10 rfl ?_
      refine pw_iload_n eJ7_fill_53178_11 rfl ?_
      refine pw_iload_n eJ7_fill_53178_12 rfl ?_
      obtain ⟨σ1, g, h⟩ := hs_bind h
      refine pw_iast' eJ7_fill_53178_13 ai_51 g ?_
      refine pw_iinc eJ7_fill_53178_14 (by decide) rfl ki_1 rfl rfl ?_
      refine pw_goto (pc' := 5) eJ7_fill_53178_17 (by decide) ?_
      exact ih x1 (x2 + 1) x3 σ1 h
def f_J7_fill_53178 (x1 : Int32) (σ : HS) : Option (HS) :=
  f_J7_fill_53178_5 FU x1 0 6 σ
set_option maxRecDepth 20000 in
theorem s_J7_fill_53178 {d : Nat} {x1 : Int32} {σ : HS} {p : HS} (h : f_J7_fill_53178 x1 σ = some p) : hs_Spec (d + 1) yJ7_fill_53178 cJ7_fill_53178 4 none [.ref 51, .int x1] σ (none, p) := by
  refine hs_spec' (by decide +kernel) rfl (Nat.le_of_ble_eq_true rfl) ?_
  show PW RJ7 cJ7_fill_53178 4 (hs_zM (d + 1) none (none, p)) 0 [some (.ref 51), some (.int x1), none, none] [] σ
  rw [f_J7_fill_53178] at h
  refine pw_iconst eJ7_fill_53178_0 ki_0 ?_
  refine pw_istore_n eJ7_fill_53178_1 rfl (by decide) rfl rfl ?_
  refine pw_aload_n eJ7_fill_53178_2 rfl ?_
  refine pw_alen (v := 6) eJ7_fill_53178_3 ai_51 (by decide +kernel) ?_
  refine pw_istore_n eJ7_fill_53178_4 rfl (by decide) rfl rfl ?_
  exact w_J7_fill_53178_5 FU x1 0 6 σ h

def f_J9_min_7cf53 (x0 : Int32) (x1 : Int32) (σ : HS) : Option (Int32 × HS) :=
  if x1 < x0 then
    some (x1, σ)
  else
    some (x0, σ)
set_option maxRecDepth 20000 in
theorem s_J9_min_7cf53 {d : Nat} {x0 : Int32} {x1 : Int32} {σ : HS} {p : Int32 × HS} (h : f_J9_min_7cf53 x0 x1 σ = some p) : hs_Spec (d + 1) yJ9_min_7cf53 cJ9_min_7cf53 2 (some .int) [.int x0, .int x1] σ (some (.int p.1), p.2) := by
  refine hs_spec' (by decide +kernel) rfl (Nat.le_of_ble_eq_true rfl) ?_
  show PW RJ9 cJ9_min_7cf53 2 (hs_zM (d + 1) (some .int) (some (.int p.1), p.2)) 0 [some (.int x0), some (.int x1)] [] σ
  rw [f_J9_min_7cf53] at h
  refine pw_iload_n eJ9_min_7cf53_0 rfl ?_
  refine pw_iload_n eJ9_min_7cf53_1 rfl ?_
  refine pw_icmp_gt (tgt := 9) eJ9_min_7cf53_2 (by decide) (fun c => ?_) (fun c => ?_)
  · have h := hs_it c h
    refine pw_iload_n eJ9_min_7cf53_9 rfl ?_
    exact pw_iret' eJ9_min_7cf53_10 h
  · have h := hs_ie c h
    refine pw_iload_n eJ9_min_7cf53_5 rfl ?_
    refine pw_goto (pc' := 10) eJ9_min_7cf53_6 (by decide) ?_
    exact pw_iret' eJ9_min_7cf53_10 h
