def f_X8_counted (x1 : Int32) (σ : HS) : Option (Int32 × HS) :=
  if ((-2) : Int32) < x1 then
    some (x1, σ)
  else
    if x1 < (-5) then
      some (x1, σ)
    else
      (ldI (σ.1 66) 4 ((-2 : Int32) - x1)).bind fun v1 =>
      (stI σ 66 4 ((-2 : Int32) - x1) (v1 + 1)).bind fun σ2 =>
      some (x1, σ2)
set_option maxRecDepth 20000 in
theorem s_X8_counted {d : Nat} {x1 : Int32} {σ : HS} {p : Int32 × HS} (h : f_X8_counted x1 σ = some p) : hs_Spec (d + 1) yX8_counted cX8_counted 2 (some .int) [.ref 0, .int x1] σ (some (.int p.1), p.2) := by
  refine hs_spec' (by decide +kernel) rfl (Nat.le_of_ble_eq_true rfl) ?_
  show PW RX8 cX8_counted 2 (hs_zM (d + 1) (some .int) (some (.int p.1), p.2)) 0 [some (.ref 0), some (.int x1)] [] σ
  rw [f_X8_counted] at h
  refine pw_iload_n eX8_counted_0 rfl ?_
  refine pw_bipush eX8_counted_1 kb_m2 ?_
  refine pw_icmp_gt (tgt := 25) eX8_counted_3 (by decide) (fun c => ?_) (fun c => ?_)
  · have h := hs_it c h
    refine pw_iload_n eX8_counted_25 rfl ?_
    exact pw_iret' eX8_counted_26 h
  · have h := hs_ie c h
    refine pw_iload_n eX8_counted_6 rfl ?_
    refine pw_bipush eX8_counted_7 kb_m5 ?_
    refine pw_icmp_lt (tgt := 25) eX8_counted_9 (by decide) (fun c => ?_) (fun c => ?_)
    · have h := hs_it c h
      refine pw_iload_n eX8_counted_25 rfl ?_
      exact pw_iret' eX8_counted_26 h
    · have h := hs_ie c h
      refine pw_aload_n eX8_counted_12 rfl ?_
      refine pw_getR (r := 66) eX8_counted_13 fl_X8_61 ob_0 rfl ?_
      refine pw_bipush eX8_counted_16 kb_m2 ?_
      refine pw_iload_n eX8_counted_18 rfl ?_
      refine pw_isub eX8_counted_19 ?_
      refine pw_dup2 eX8_counted_20 rfl rfl ?_
      obtain ⟨v1, g, h⟩ := hs_bind h
      refine pw_iald' eX8_counted_21 ai_66 g ?_
      refine pw_iconst eX8_counted_22 ki_1 ?_
      refine pw_iadd eX8_counted_23 ?_
      obtain ⟨σ2, g, h⟩ := hs_bind h
      refine pw_iast' eX8_counted_24 ai_66 g ?_
      refine pw_iload_n eX8_counted_25 rfl ?_
      exact pw_iret' eX8_counted_26 h

def f_X8_forgetAnswers (σ : HS) : Option (HS) :=
  some (sI (sI (sI σ 38 6 0) 42 9 0) 54 6 0)
set_option maxRecDepth 20000 in
theorem s_X8_forgetAnswers {d : Nat} {σ : HS} {p : HS} (h : f_X8_forgetAnswers σ = some p) : hs_Spec (d + 1) yX8_forgetAnswers cX8_forgetAnswers 1 none [.ref 0] σ (none, p) := by
  refine hs_spec' (by decide +kernel) rfl (Nat.le_of_ble_eq_true rfl) ?_
  show PW RX8 cX8_forgetAnswers 1 (hs_zM (d + 1) none (none, p)) 0 [some (.ref 0)] [] σ
  rw [f_X8_forgetAnswers] at h
  refine pw_aload_n eX8_forgetAnswers_0 rfl ?_
  refine pw_getR (r := 38) eX8_forgetAnswers_1 fl_X8_29 ob_0 rfl ?_
  refine pw_iconst eX8_forgetAnswers_4 ki_0 ?_
  refine pw_putZ eX8_forgetAnswers_5 fw_X8_199 ob_38 rfl narrow_b0 rfl ?_
  refine pw_aload_n eX8_forgetAnswers_8 rfl ?_
  refine pw_getR (r := 42) eX8_forgetAnswers_9 fl_X8_36 ob_0 rfl ?_
  refine pw_iconst eX8_forgetAnswers_12 ki_0 ?_
  refine pw_putZ eX8_forgetAnswers_13 fw_X8_202 ob_42 rfl narrow_b0 rfl ?_
  refine pw_aload_n eX8_forgetAnswers_16 rfl ?_
  refine pw_getR (r := 54) eX8_forgetAnswers_17 fl_X8_50 ob_0 rfl ?_
  refine pw_iconst eX8_forgetAnswers_20 ki_0 ?_
  refine pw_putZ eX8_forgetAnswers_21 fw_X8_203 ob_54 rfl narrow_b0 rfl ?_
  exact pw_vret' eX8_forgetAnswers_24 h

def f_X8_settled (x1 : Int32) (σ : HS) : Option (Int32 × HS) :=
  if (0 : Int32) ≤ x1 then
    (f_X7_keep 1 σ).bind fun σ1 =>
    (f_X6_copyFrom 1 6 σ1).bind fun σ2 =>
    (f_X8_forgetAnswers σ2).bind fun σ3 =>
    some (x1, σ3)
  else
    (f_X8_counted x1 σ).bind fun q4 =>
    some (q4.1, q4.2)
set_option maxRecDepth 20000 in
theorem s_X8_settled {d : Nat} {x1 : Int32} {σ : HS} {p : Int32 × HS} (h : f_X8_settled x1 σ = some p) : hs_Spec (d + 3) yX8_settled cX8_settled 2 (some .int) [.ref 0, .int x1] σ (some (.int p.1), p.2) := by
  refine hs_spec' (by decide +kernel) rfl (Nat.le_of_ble_eq_true rfl) ?_
  show PW RX8 cX8_settled 2 (hs_zM (d + 3) (some .int) (some (.int p.1), p.2)) 0 [some (.ref 0), some (.int x1)] [] σ
  rw [f_X8_settled] at h
  refine pw_iload_n eX8_settled_0 rfl ?_
  refine pw_if_ge (tgt := 10) eX8_settled_1 (by decide) (fun c => ?_) (fun c => ?_)
  · have h := hs_it c h
    refine pw_aload_n eX8_settled_10 rfl ?_
    refine pw_getR (r := 11) eX8_settled_11 fl_X8_22 ob_0 rfl ?_
    refine pw_aload_n eX8_settled_14 rfl ?_
    refine pw_getR (r := 1) eX8_settled_15 fl_X8_12 ob_0 rfl ?_
    obtain ⟨σ1, g, h⟩ := hs_bind h
    refine pw_mV1v eX8_settled_18 mv_X8_196 ob_11 (s_X7_keep is_1 g) (Nat.le_of_ble_eq_true rfl) ?_
    refine pw_aload_n eX8_settled_21 rfl ?_
    refine pw_getR (r := 1) eX8_settled_22 fl_X8_12 ob_0 rfl ?_
    refine pw_aload_n eX8_settled_25 rfl ?_
    refine pw_getR (r := 6) eX8_settled_26 fl_X8_16 ob_0 rfl ?_
    obtain ⟨σ2, g, h⟩ := hs_bind h
    refine pw_mV1v eX8_settled_29 mv_X8_65 is_1.1 (s_X6_copyFrom is_1 is_6 g) (Nat.le_of_ble_eq_true rfl) ?_
    refine pw_aload_n eX8_settled_32 rfl ?_
    obtain ⟨σ3, g, h⟩ := hs_bind h
    refine pw_mV0v eX8_settled_33 mv_X8_183 ob_0 (s_X8_forgetAnswers g) (Nat.le_of_ble_eq_true rfl) ?_
    refine pw_iload_n eX8_settled_36 rfl ?_
    exact pw_iret' eX8_settled_37 h
  · have h := hs_ie c h
    refine pw_aload_n eX8_settled_4 rfl ?_
    refine pw_iload_n eX8_settled_5 rfl ?_
    obtain ⟨q4, g, h⟩ := hs_bind h
    refine pw_mV1i eX8_settled_6 mv_X8_85 ob_0 (s_X8_counted g) (Nat.le_of_ble_eq_true rfl) ?_
    exact pw_iret' eX8_settled_9 h

def f_X8_kind (x1 : Int32) (x2 : Int32) (x3 : Int32) (x4 : Int32) (σ : HS) : Option (Int32 × HS) :=
  (f_X6_copyFrom 6 1 σ).bind fun σ1 =>
  (f_X6_addKind 6 x1 x2 x3 x4 σ1).bind fun q2 =>
  (f_X8_settled q2.1 q2.2).bind fun q3 =>
  some (q3.1, q3.2)
set_option maxRecDepth 20000 in
theorem s_X8_kind {d : Nat} {x1 : Int32} {x2 : Int32} {x3 : Int32} {x4 : Int32} {σ : HS} {p : Int32 × HS} (h : f_X8_kind x1 x2 x3 x4 σ = some p) : hs_Spec (d + 4) yX8_kind cX8_kind 5 (some .int) [.ref 0, .int x1, .int x2, .int x3, .int x4] σ (some (.int p.1), p.2) := by
  refine hs_spec' (by decide +kernel) rfl (Nat.le_of_ble_eq_true rfl) ?_
  show PW RX8 cX8_kind 5 (hs_zM (d + 4) (some .int) (some (.int p.1), p.2)) 0 [some (.ref 0), some (.int x1), some (.int x2), some (.int x3), some (.int x4)] [] σ
  rw [f_X8_kind] at h
  refine pw_aload_n eX8_kind_0 rfl ?_
  refine pw_getR (r := 6) eX8_kind_1 fl_X8_16 ob_0 rfl ?_
  refine pw_aload_n eX8_kind_4 rfl ?_
  refine pw_getR (r := 1) eX8_kind_5 fl_X8_12 ob_0 rfl ?_
  obtain ⟨σ1, g, h⟩ := hs_bind h
  refine pw_mV1v eX8_kind_8 mv_X8_65 is_6.1 (s_X6_copyFrom is_6 is_1 g) (Nat.le_of_ble_eq_true rfl) ?_
  refine pw_aload_n eX8_kind_11 rfl ?_
  refine pw_aload_n eX8_kind_12 rfl ?_
  refine pw_getR (r := 6) eX8_kind_13 fl_X8_16 ob_0 rfl ?_
  refine pw_iload_n eX8_kind_16 rfl ?_
  refine pw_iload_n eX8_kind_17 rfl ?_
  refine pw_iload_n eX8_kind_18 rfl ?_
  refine pw_iload eX8_kind_19 rfl ?_
  obtain ⟨q2, g, h⟩ := hs_bind h
  refine pw_mV4i eX8_kind_21 mv_X8_69 is_6.1 (s_X6_addKind is_6 g) (Nat.le_of_ble_eq_true rfl) ?_
  obtain ⟨q3, g, h⟩ := hs_bind h
  refine pw_mV1i eX8_kind_24 mv_X8_73 ob_0 (s_X8_settled g) (Nat.le_of_ble_eq_true rfl) ?_
  exact pw_iret' eX8_kind_27 h

def f_X8_sets (x1 : Int32) (x2 : Int32) (σ : HS) : Option (Int32 × HS) :=
  (f_X6_copyFrom 6 1 σ).bind fun σ1 =>
  (f_X6_change 6 x1 x2 σ1).bind fun q2 =>
  (f_X8_settled q2.1 q2.2).bind fun q3 =>
  some (q3.1, q3.2)
set_option maxRecDepth 20000 in
theorem s_X8_sets {d : Nat} {x1 : Int32} {x2 : Int32} {σ : HS} {p : Int32 × HS} (h : f_X8_sets x1 x2 σ = some p) : hs_Spec (d + 4) yX8_sets cX8_sets 3 (some .int) [.ref 0, .int x1, .int x2] σ (some (.int p.1), p.2) := by
  refine hs_spec' (by decide +kernel) rfl (Nat.le_of_ble_eq_true rfl) ?_
  show PW RX8 cX8_sets 3 (hs_zM (d + 4) (some .int) (some (.int p.1), p.2)) 0 [some (.ref 0), some (.int x1), some (.int x2)] [] σ
  rw [f_X8_sets] at h
  refine pw_aload_n eX8_sets_0 rfl ?_
  refine pw_getR (r := 6) eX8_sets_1 fl_X8_16 ob_0 rfl ?_
  refine pw_aload_n eX8_sets_4 rfl ?_
  refine pw_getR (r := 1) eX8_sets_5 fl_X8_12 ob_0 rfl ?_
  obtain ⟨σ1, g, h⟩ := hs_bind h
  refine pw_mV1v eX8_sets_8 mv_X8_65 is_6.1 (s_X6_copyFrom is_6 is_1 g) (Nat.le_of_ble_eq_true rfl) ?_
  refine pw_aload_n eX8_sets_11 rfl ?_
  refine pw_aload_n eX8_sets_12 rfl ?_
  refine pw_getR (r := 6) eX8_sets_13 fl_X8_16 ob_0 rfl ?_
  refine pw_iload_n eX8_sets_16 rfl ?_
  refine pw_iload_n eX8_sets_17 rfl ?_
  obtain ⟨q2, g, h⟩ := hs_bind h
  refine pw_mV2i eX8_sets_18 mv_X8_77 is_6.1 (s_X6_change is_6 g) (Nat.le_of_ble_eq_true rfl) ?_
  obtain ⟨q3, g, h⟩ := hs_bind h
  refine pw_mV1i eX8_sets_21 mv_X8_73 ob_0 (s_X8_settled g) (Nat.le_of_ble_eq_true rfl) ?_
  exact pw_iret' eX8_sets_24 h

def f_X8_kindFact (x1 : Int32) (x2 : Int32) (σ : HS) : Option (Int32 × HS) :=
  if x2 = 3 then
    (ldI (σ.1 (1 + 2)) 5 x1).bind fun v1 =>
    some (v1, σ)
  else if x2 = 4 then
    (f_X6_instructionsOf 1 x1 σ).bind fun q2 =>
    some (q2.1, q2.2)
  else 
    (ldI (σ.1 (1 + 1)) 5 x1).bind fun v3 =>
  (f_X8_unitOf v3 x2 σ).bind fun q4 =>
  some (q4.1, q4.2)
set_option maxRecDepth 20000 in
theorem s_X8_kindFact {d : Nat} {x1 : Int32} {x2 : Int32} {σ : HS} {p : Int32 × HS} (h : f_X8_kindFact x1 x2 σ = some p) : hs_Spec (d + 2) yX8_kindFact cX8_kindFact 3 (some .int) [.ref 0, .int x1, .int x2] σ (some (.int p.1), p.2) := by
  refine hs_spec' (by decide +kernel) rfl (Nat.le_of_ble_eq_true rfl) ?_
  show PW RX8 cX8_kindFact 3 (hs_zM (d + 2) (some .int) (some (.int p.1), p.2)) 0 [some (.ref 0), some (.int x1), some (.int x2)] [] σ
  rw [f_X8_kindFact] at h
  refine pw_iload_n eX8_kindFact_0 rfl ?_
  by_cases c0 : x2 = 3
  · have h := hs_it c0 h
    refine pw_look (pc' := 28) (off := 27) eX8_kindFact_1 (by decide) (by rw [c0]; decide) (by decide) ?_
    refine pw_aload_n eX8_kindFact_28 rfl ?_
    refine pw_getR (r := 1) eX8_kindFact_29 fl_X8_12 ob_0 rfl ?_
    refine pw_getR (r := (1 + 2)) eX8_kindFact_32 fl_X8_204 is_1.1 rfl ?_
    refine pw_iload_n eX8_kindFact_35 rfl ?_
    obtain ⟨v1, g, h⟩ := hs_bind h
    refine pw_iald' eX8_kindFact_36 is_1.2.2.1 g ?_
    exact pw_iret' eX8_kindFact_37 h
  have h := hs_ie c0 h
  by_cases c1 : x2 = 4
  · have h := hs_it c1 h
    refine pw_look (pc' := 38) (off := 37) eX8_kindFact_1 (by decide) (by rw [c1]; decide) (by decide) ?_
    refine pw_aload_n eX8_kindFact_38 rfl ?_
    refine pw_getR (r := 1) eX8_kindFact_39 fl_X8_12 ob_0 rfl ?_
    refine pw_iload_n eX8_kindFact_42 rfl ?_
    obtain ⟨q2, g, h⟩ := hs_bind h
    refine pw_mV1i eX8_kindFact_43 mv_X8_207 is_1.1 (s_X6_instructionsOf is_1 g) (Nat.le_of_ble_eq_true rfl) ?_
    exact pw_iret' eX8_kindFact_46 h
  have h := hs_ie c1 h
  have d0 := hs_nl (z := 3) c0 (by decide); have d1 := hs_nl (z := 4) c1 (by decide); skip
  refine pw_look (pc' := 47) (off := 46) eX8_kindFact_1 (by decide) (by simp [Op.lookupswitch.offset, Ne.symm d0, d0, Ne.symm d1, d1]) (by decide) ?_
  refine pw_aload_n eX8_kindFact_47 rfl ?_
  refine pw_getR (r := 1) eX8_kindFact_48 fl_X8_12 ob_0 rfl ?_
  refine pw_getR (r := (1 + 1)) eX8_kindFact_51 fl_X8_210 is_1.1 rfl ?_
  refine pw_iload_n eX8_kindFact_54 rfl ?_
  obtain ⟨v3, g, h⟩ := hs_bind h
  refine pw_iald' eX8_kindFact_55 is_1.2.1 g ?_
  refine pw_iload_n eX8_kindFact_56 rfl ?_
  obtain ⟨q4, g, h⟩ := hs_bind h
  refine pw_mS2i eX8_kindFact_57 ms_X8_213 (s_X8_unitOf g) (Nat.le_of_ble_eq_true rfl) ?_
  exact pw_iret' eX8_kindFact_60 h

def f_X8_of (x1 : Int32) (x2 : Int32) (σ : HS) : Option (Int32 × HS) :=
  (f_X6_hasKind 1 x1 σ).bind fun q1 =>
  if q1.1 = 0 then
    (f_X8_counted (-2) q1.2).bind fun q2 =>
    some (q2.1, q2.2)
  else
    if x2 < 0 then
      (f_X8_counted (-2) q1.2).bind fun q3 =>
      some (q3.1, q3.2)
    else
      if x2 ≤ 4 then
        (f_X8_kindFact x1 x2 q1.2).bind fun q4 =>
        some (q4.1, q4.2)
      else
        (f_X8_counted (-2) q1.2).bind fun q5 =>
        some (q5.1, q5.2)
set_option maxRecDepth 20000 in
theorem s_X8_of {d : Nat} {x1 : Int32} {x2 : Int32} {σ : HS} {p : Int32 × HS} (h : f_X8_of x1 x2 σ = some p) : hs_Spec (d + 3) yX8_of cX8_of 3 (some .int) [.ref 0, .int x1, .int x2] σ (some (.int p.1), p.2) := by
  refine hs_spec' (by decide +kernel) rfl (Nat.le_of_ble_eq_true rfl) ?_
  show PW RX8 cX8_of 3 (hs_zM (d + 3) (some .int) (some (.int p.1), p.2)) 0 [some (.ref 0), some (.int x1), some (.int x2)] [] σ
  rw [f_X8_of] at h
  refine pw_aload_n eX8_of_0 rfl ?_
  refine pw_getR (r := 1) eX8_of_1 fl_X8_12 ob_0 rfl ?_
  refine pw_iload_n eX8_of_4 rfl ?_
  obtain ⟨q1, g, h⟩ := hs_bind h
  refine pw_mV1i eX8_of_5 mv_X8_81 is_1.1 (s_X6_hasKind is_1 g) (Nat.le_of_ble_eq_true rfl) ?_
  refine pw_if_eq (tgt := 20) eX8_of_8 (by decide) (fun c => ?_) (fun c => ?_)
  · have h := hs_it c h
    refine pw_aload_n eX8_of_20 rfl ?_
    refine pw_bipush eX8_of_21 kb_m2 ?_
    obtain ⟨q2, g, h⟩ := hs_bind h
    refine pw_mV1i eX8_of_23 mv_X8_85 ob_0 (s_X8_counted g) (Nat.le_of_ble_eq_true rfl) ?_
    exact pw_iret' eX8_of_26 h
  · have h := hs_ie c h
    refine pw_iload_n eX8_of_11 rfl ?_
    refine pw_if_lt (tgt := 20) eX8_of_12 (by decide) (fun c => ?_) (fun c => ?_)
    · have h := hs_it c h
      refine pw_aload_n eX8_of_20 rfl ?_
      refine pw_bipush eX8_of_21 kb_m2 ?_
      obtain ⟨q3, g, h⟩ := hs_bind h
      refine pw_mV1i eX8_of_23 mv_X8_85 ob_0 (s_X8_counted g) (Nat.le_of_ble_eq_true rfl) ?_
      exact pw_iret' eX8_of_26 h
    · have h := hs_ie c h
      refine pw_iload_n eX8_of_15 rfl ?_
      refine pw_iconst eX8_of_16 ki_4 ?_
      refine pw_icmp_le (tgt := 27) eX8_of_17 (by decide) (fun c => ?_) (fun c => ?_)
      · have h := hs_it c h
        refine pw_aload_n eX8_of_27 rfl ?_
        refine pw_iload_n eX8_of_28 rfl ?_
        refine pw_iload_n eX8_of_29 rfl ?_
        obtain ⟨q4, g, h⟩ := hs_bind h
        refine pw_mV2i eX8_of_30 mv_X8_88 ob_0 (s_X8_kindFact g) (Nat.le_of_ble_eq_true rfl) ?_
        exact pw_iret' eX8_of_33 h
      · have h := hs_ie c h
        refine pw_aload_n eX8_of_20 rfl ?_
        refine pw_bipush eX8_of_21 kb_m2 ?_
        obtain ⟨q5, g, h⟩ := hs_bind h
        refine pw_mV1i eX8_of_23 mv_X8_85 ob_0 (s_X8_counted g) (Nat.le_of_ble_eq_true rfl) ?_
        exact pw_iret' eX8_of_26 h

def f_X8_states (σ : HS) : Option (Int32 × HS) :=
  (f_X1_learn 1 σ).bind fun σ1 =>
  (f_X1_statesOrMuch σ1).bind fun q2 =>
  (f_X8_counted q2.1 q2.2).bind fun q3 =>
  some (q3.1, q3.2)
set_option maxRecDepth 20000 in
theorem s_X8_states {d : Nat} {σ : HS} {p : Int32 × HS} (h : f_X8_states σ = some p) : hs_Spec (d + 5) yX8_states cX8_states 1 (some .int) [.ref 0] σ (some (.int p.1), p.2) := by
  refine hs_spec' (by decide +kernel) rfl (Nat.le_of_ble_eq_true rfl) ?_
  show PW RX8 cX8_states 1 (hs_zM (d + 5) (some .int) (some (.int p.1), p.2)) 0 [some (.ref 0)] [] σ
  rw [f_X8_states] at h
  refine pw_aload_n eX8_states_0 rfl ?_
  refine pw_getR (r := 38) eX8_states_1 fl_X8_29 ob_0 rfl ?_
  refine pw_aload_n eX8_states_4 rfl ?_
  refine pw_getR (r := 1) eX8_states_5 fl_X8_12 ob_0 rfl ?_
  obtain ⟨σ1, g, h⟩ := hs_bind h
  refine pw_mV1v eX8_states_8 mv_X8_91 ob_38 (s_X1_learn is_1 g) (Nat.le_of_ble_eq_true rfl) ?_
  refine pw_aload_n eX8_states_11 rfl ?_
  refine pw_aload_n eX8_states_12 rfl ?_
  refine pw_getR (r := 38) eX8_states_13 fl_X8_29 ob_0 rfl ?_
  obtain ⟨q2, g, h⟩ := hs_bind h
  refine pw_mV0i eX8_states_16 mv_X8_94 ob_38 (s_X1_statesOrMuch g) (Nat.le_of_ble_eq_true rfl) ?_
  obtain ⟨q3, g, h⟩ := hs_bind h
  refine pw_mV1i eX8_states_19 mv_X8_85 ob_0 (s_X8_counted g) (Nat.le_of_ble_eq_true rfl) ?_
  exact pw_iret' eX8_states_22 h

def f_X8_state (x1 : Int32) (x2 : Int32) (σ : HS) : Option (Int32 × HS) :=
  if x1 < 0 then
    (f_X8_counted (-2) σ).bind fun q1 =>
    some (q1.1, q1.2)
  else
    if x2 < 0 then
      (f_X8_counted (-2) σ).bind fun q2 =>
      some (q2.1, q2.2)
    else
      if x2 ≤ ((3 : Int32) + (σ.1 1 4)) then
        (f_X1_learn 1 σ).bind fun σ3 =>
        if (σ3.1 38 5) = 0 then
          (f_X1_hasState x1 σ3).bind fun q4 =>
          if q4.1 = 0 then
            (f_X8_counted (-2) q4.2).bind fun q6 =>
            some (q6.1, q6.2)
          else
            (f_X1_stateFact 1 x1 x2 q4.2).bind fun q5 =>
            some (q5.1, q5.2)
        else
          (f_X8_counted (-5) σ3).bind fun q7 =>
          some (q7.1, q7.2)
      else
        (f_X8_counted (-2) σ).bind fun q8 =>
        some (q8.1, q8.2)
set_option maxRecDepth 20000 in
theorem s_X8_state {d : Nat} {x1 : Int32} {x2 : Int32} {σ : HS} {p : Int32 × HS} (h : f_X8_state x1 x2 σ = some p) : hs_Spec (d + 5) yX8_state cX8_state 3 (some .int) [.ref 0, .int x1, .int x2] σ (some (.int p.1), p.2) := by
  refine hs_spec' (by decide +kernel) rfl (Nat.le_of_ble_eq_true rfl) ?_
  show PW RX8 cX8_state 3 (hs_zM (d + 5) (some .int) (some (.int p.1), p.2)) 0 [some (.ref 0), some (.int x1), some (.int x2)] [] σ
  rw [f_X8_state] at h
  refine pw_iload_n eX8_state_0 rfl ?_
  refine pw_if_lt (tgt := 21) eX8_state_1 (by decide) (fun c => ?_) (fun c => ?_)
  · have h := hs_it c h
    refine pw_aload_n eX8_state_21 rfl ?_
    refine pw_bipush eX8_state_22 kb_m2 ?_
    obtain ⟨q1, g, h⟩ := hs_bind h
    refine pw_mV1i eX8_state_24 mv_X8_85 ob_0 (s_X8_counted g) (Nat.le_of_ble_eq_true rfl) ?_
    exact pw_iret' eX8_state_27 h
  · have h := hs_ie c h
    refine pw_iload_n eX8_state_4 rfl ?_
    refine pw_if_lt (tgt := 21) eX8_state_5 (by decide) (fun c => ?_) (fun c => ?_)
    · have h := hs_it c h
      refine pw_aload_n eX8_state_21 rfl ?_
      refine pw_bipush eX8_state_22 kb_m2 ?_
      obtain ⟨q2, g, h⟩ := hs_bind h
      refine pw_mV1i eX8_state_24 mv_X8_85 ob_0 (s_X8_counted g) (Nat.le_of_ble_eq_true rfl) ?_
      exact pw_iret' eX8_state_27 h
    · have h := hs_ie c h
      refine pw_iload_n eX8_state_8 rfl ?_
      refine pw_iconst eX8_state_9 ki_3 ?_
      refine pw_aload_n eX8_state_10 rfl ?_
      refine pw_getR (r := 1) eX8_state_11 fl_X8_12 ob_0 rfl ?_
      refine pw_getI eX8_state_14 fl_X8_98 is_1.1 rfl ?_
      refine pw_iadd eX8_state_17 ?_
      refine pw_icmp_le (tgt := 28) eX8_state_18 (by decide) (fun c => ?_) (fun c => ?_)
      · have h := hs_it c h
        refine pw_aload_n eX8_state_28 rfl ?_
        refine pw_getR (r := 38) eX8_state_29 fl_X8_29 ob_0 rfl ?_
        refine pw_aload_n eX8_state_32 rfl ?_
        refine pw_getR (r := 1) eX8_state_33 fl_X8_12 ob_0 rfl ?_
        obtain ⟨σ3, g, h⟩ := hs_bind h
        refine pw_mV1v eX8_state_36 mv_X8_91 ob_38 (s_X1_learn is_1 g) (Nat.le_of_ble_eq_true rfl) ?_
        refine pw_aload_n eX8_state_39 rfl ?_
        refine pw_getR (r := 38) eX8_state_40 fl_X8_29 ob_0 rfl ?_
        refine pw_getI eX8_state_43 fl_X8_102 ob_38 rfl ?_
        refine pw_if_eq (tgt := 56) eX8_state_46 (by decide) (fun c => ?_) (fun c => ?_)
        · have h := hs_it c h
          refine pw_aload_n eX8_state_56 rfl ?_
          refine pw_getR (r := 38) eX8_state_57 fl_X8_29 ob_0 rfl ?_
          refine pw_iload_n eX8_state_60 rfl ?_
          obtain ⟨q4, g, h⟩ := hs_bind h
          refine pw_mV1i eX8_state_61 mv_X8_106 ob_38 (s_X1_hasState g) (Nat.le_of_ble_eq_true rfl) ?_
          refine pw_if_ne (tgt := 74) eX8_state_64 (by decide) (fun c => ?_) (fun c => ?_)
          · have h := hs_ie c h
            refine pw_aload_n eX8_state_74 rfl ?_
            refine pw_getR (r := 38) eX8_state_75 fl_X8_29 ob_0 rfl ?_
            refine pw_aload_n eX8_state_78 rfl ?_
            refine pw_getR (r := 1) eX8_state_79 fl_X8_12 ob_0 rfl ?_
            refine pw_iload_n eX8_state_82 rfl ?_
            refine pw_iload_n eX8_state_83 rfl ?_
            obtain ⟨q5, g, h⟩ := hs_bind h
            refine pw_mV3i eX8_state_84 mv_X8_109 ob_38 (s_X1_stateFact is_1 g) (Nat.le_of_ble_eq_true rfl) ?_
            exact pw_iret' eX8_state_87 h
          · have h := hs_it c h
            refine pw_aload_n eX8_state_67 rfl ?_
            refine pw_bipush eX8_state_68 kb_m2 ?_
            obtain ⟨q6, g, h⟩ := hs_bind h
            refine pw_mV1i eX8_state_70 mv_X8_85 ob_0 (s_X8_counted g) (Nat.le_of_ble_eq_true rfl) ?_
            exact pw_iret' eX8_state_73 h
        · have h := hs_ie c h
          refine pw_aload_n eX8_state_49 rfl ?_
          refine pw_bipush eX8_state_50 kb_m5 ?_
          obtain ⟨q7, g, h⟩ := hs_bind h
          refine pw_mV1i eX8_state_52 mv_X8_85 ob_0 (s_X8_counted g) (Nat.le_of_ble_eq_true rfl) ?_
          exact pw_iret' eX8_state_55 h
      · have h := hs_ie c h
        refine pw_aload_n eX8_state_21 rfl ?_
        refine pw_bipush eX8_state_22 kb_m2 ?_
        obtain ⟨q8, g, h⟩ := hs_bind h
        refine pw_mV1i eX8_state_24 mv_X8_85 ob_0 (s_X8_counted g) (Nat.le_of_ble_eq_true rfl) ?_
        exact pw_iret' eX8_state_27 h

def f_X8_classes (σ : HS) : Option (Int32 × HS) :=
  (f_X1_learn 1 σ).bind fun σ1 =>
  (f_X1_classesOrMuch σ1).bind fun q2 =>
  (f_X8_counted q2.1 q2.2).bind fun q3 =>
  some (q3.1, q3.2)
set_option maxRecDepth 20000 in
theorem s_X8_classes {d : Nat} {σ : HS} {p : Int32 × HS} (h : f_X8_classes σ = some p) : hs_Spec (d + 5) yX8_classes cX8_classes 1 (some .int) [.ref 0] σ (some (.int p.1), p.2) := by
  refine hs_spec' (by decide +kernel) rfl (Nat.le_of_ble_eq_true rfl) ?_
  show PW RX8 cX8_classes 1 (hs_zM (d + 5) (some .int) (some (.int p.1), p.2)) 0 [some (.ref 0)] [] σ
  rw [f_X8_classes] at h
  refine pw_aload_n eX8_classes_0 rfl ?_
  refine pw_getR (r := 38) eX8_classes_1 fl_X8_29 ob_0 rfl ?_
  refine pw_aload_n eX8_classes_4 rfl ?_
  refine pw_getR (r := 1) eX8_classes_5 fl_X8_12 ob_0 rfl ?_
  obtain ⟨σ1, g, h⟩ := hs_bind h
  refine pw_mV1v eX8_classes_8 mv_X8_91 ob_38 (s_X1_learn is_1 g) (Nat.le_of_ble_eq_true rfl) ?_
  refine pw_aload_n eX8_classes_11 rfl ?_
  refine pw_aload_n eX8_classes_12 rfl ?_
  refine pw_getR (r := 38) eX8_classes_13 fl_X8_29 ob_0 rfl ?_
  obtain ⟨q2, g, h⟩ := hs_bind h
  refine pw_mV0i eX8_classes_16 mv_X8_113 ob_38 (s_X1_classesOrMuch g) (Nat.le_of_ble_eq_true rfl) ?_
  obtain ⟨q3, g, h⟩ := hs_bind h
  refine pw_mV1i eX8_classes_19 mv_X8_85 ob_0 (s_X8_counted g) (Nat.le_of_ble_eq_true rfl) ?_
  exact pw_iret' eX8_classes_22 h

def f_X8_alike (x1 : Int32) (x2 : Int32) (σ : HS) : Option (Int32 × HS) :=
  if x1 < 0 then
    (f_X8_counted (-2) σ).bind fun q1 =>
    some (q1.1, q1.2)
  else
    if (0 : Int32) ≤ x2 then
      (f_X1_learn 1 σ).bind fun σ2 =>
      if (σ2.1 38 5) = 0 then
        (f_X1_hasState x1 σ2).bind fun q3 =>
        if q3.1 = 0 then
          (f_X8_counted (-2) q3.2).bind fun q4 =>
          some (q4.1, q4.2)
        else
          (f_X1_hasState x2 q3.2).bind fun q5 =>
          if q5.1 = 0 then
            (f_X8_counted (-2) q5.2).bind fun q7 =>
            some (q7.1, q7.2)
          else
            (f_X1_sameClass x1 x2 q5.2).bind fun q6 =>
            if q6.1 = 0 then
              some (0, q6.2)
            else
              some (1, q6.2)
      else
        (f_X8_counted (-5) σ2).bind fun q8 =>
        some (q8.1, q8.2)
    else
      (f_X8_counted (-2) σ).bind fun q9 =>
      some (q9.1, q9.2)
set_option maxRecDepth 20000 in
theorem s_X8_alike {d : Nat} {x1 : Int32} {x2 : Int32} {σ : HS} {p : Int32 × HS} (h : f_X8_alike x1 x2 σ = some p) : hs_Spec (d + 5) yX8_alike cX8_alike 3 (some .int) [.ref 0, .int x1, .int x2] σ (some (.int p.1), p.2) := by
  refine hs_spec' (by decide +kernel) rfl (Nat.le_of_ble_eq_true rfl) ?_
  show PW RX8 cX8_alike 3 (hs_zM (d + 5) (some .int) (some (.int p.1), p.2)) 0 [some (.ref 0), some (.int x1), some (.int x2)] [] σ
  rw [f_X8_alike] at h
  refine pw_iload_n eX8_alike_0 rfl ?_
  refine pw_if_lt (tgt := 8) eX8_alike_1 (by decide) (fun c => ?_) (fun c => ?_)
  · have h := hs_it c h
    refine pw_aload_n eX8_alike_8 rfl ?_
    refine pw_bipush eX8_alike_9 kb_m2 ?_
    obtain ⟨q1, g, h⟩ := hs_bind h
    refine pw_mV1i eX8_alike_11 mv_X8_85 ob_0 (s_X8_counted g) (Nat.le_of_ble_eq_true rfl) ?_
    exact pw_iret' eX8_alike_14 h
  · have h := hs_ie c h
    refine pw_iload_n eX8_alike_4 rfl ?_
    refine pw_if_ge (tgt := 15) eX8_alike_5 (by decide) (fun c => ?_) (fun c => ?_)
    · have h := hs_it c h
      refine pw_aload_n eX8_alike_15 rfl ?_
      refine pw_getR (r := 38) eX8_alike_16 fl_X8_29 ob_0 rfl ?_
      refine pw_aload_n eX8_alike_19 rfl ?_
      refine pw_getR (r := 1) eX8_alike_20 fl_X8_12 ob_0 rfl ?_
      obtain ⟨σ2, g, h⟩ := hs_bind h
      refine pw_mV1v eX8_alike_23 mv_X8_91 ob_38 (s_X1_learn is_1 g) (Nat.le_of_ble_eq_true rfl) ?_
      refine pw_aload_n eX8_alike_26 rfl ?_
      refine pw_getR (r := 38) eX8_alike_27 fl_X8_29 ob_0 rfl ?_
      refine pw_getI eX8_alike_30 fl_X8_102 ob_38 rfl ?_
      refine pw_if_eq (tgt := 43) eX8_alike_33 (by decide) (fun c => ?_) (fun c => ?_)
      · have h := hs_it c h
        refine pw_aload_n eX8_alike_43 rfl ?_
        refine pw_getR (r := 38) eX8_alike_44 fl_X8_29 ob_0 rfl ?_
        refine pw_iload_n eX8_alike_47 rfl ?_
        obtain ⟨q3, g, h⟩ := hs_bind h
        refine pw_mV1i eX8_alike_48 mv_X8_106 ob_38 (s_X1_hasState g) (Nat.le_of_ble_eq_true rfl) ?_
        refine pw_if_eq (tgt := 65) eX8_alike_51 (by decide) (fun c => ?_) (fun c => ?_)
        · have h := hs_it c h
          refine pw_aload_n eX8_alike_65 rfl ?_
          refine pw_bipush eX8_alike_66 kb_m2 ?_
          obtain ⟨q4, g, h⟩ := hs_bind h
          refine pw_mV1i eX8_alike_68 mv_X8_85 ob_0 (s_X8_counted g) (Nat.le_of_ble_eq_true rfl) ?_
          exact pw_iret' eX8_alike_71 h
        · have h := hs_ie c h
          refine pw_aload_n eX8_alike_54 rfl ?_
          refine pw_getR (r := 38) eX8_alike_55 fl_X8_29 ob_0 rfl ?_
          refine pw_iload_n eX8_alike_58 rfl ?_
          obtain ⟨q5, g, h⟩ := hs_bind h
          refine pw_mV1i eX8_alike_59 mv_X8_106 ob_38 (s_X1_hasState g) (Nat.le_of_ble_eq_true rfl) ?_
          refine pw_if_ne (tgt := 72) eX8_alike_62 (by decide) (fun c => ?_) (fun c => ?_)
          · have h := hs_ie c h
            refine pw_aload_n eX8_alike_72 rfl ?_
            refine pw_getR (r := 38) eX8_alike_73 fl_X8_29 ob_0 rfl ?_
            refine pw_iload_n eX8_alike_76 rfl ?_
            refine pw_iload_n eX8_alike_77 rfl ?_
            obtain ⟨q6, g, h⟩ := hs_bind h
            refine pw_mV2i eX8_alike_78 mv_X8_116 ob_38 (s_X1_sameClass g) (Nat.le_of_ble_eq_true rfl) ?_
            refine pw_if_eq (tgt := 88) eX8_alike_81 (by decide) (fun c => ?_) (fun c => ?_)
            · have h := hs_it c h
              refine pw_iconst eX8_alike_88 ki_0 ?_
              exact pw_iret' eX8_alike_89 h
            · have h := hs_ie c h
              refine pw_iconst eX8_alike_84 ki_1 ?_
              refine pw_goto (pc' := 89) eX8_alike_85 (by decide) ?_
              exact pw_iret' eX8_alike_89 h
          · have h := hs_it c h
            refine pw_aload_n eX8_alike_65 rfl ?_
            refine pw_bipush eX8_alike_66 kb_m2 ?_
            obtain ⟨q7, g, h⟩ := hs_bind h
            refine pw_mV1i eX8_alike_68 mv_X8_85 ob_0 (s_X8_counted g) (Nat.le_of_ble_eq_true rfl) ?_
            exact pw_iret' eX8_alike_71 h
      · have h := hs_ie c h
        refine pw_aload_n eX8_alike_36 rfl ?_
        refine pw_bipush eX8_alike_37 kb_m5 ?_
        obtain ⟨q8, g, h⟩ := hs_bind h
        refine pw_mV1i eX8_alike_39 mv_X8_85 ob_0 (s_X8_counted g) (Nat.le_of_ble_eq_true rfl) ?_
        exact pw_iret' eX8_alike_42 h
    · have h := hs_ie c h
      refine pw_aload_n eX8_alike_8 rfl ?_
      refine pw_bipush eX8_alike_9 kb_m2 ?_
      obtain ⟨q9, g, h⟩ := hs_bind h
      refine pw_mV1i eX8_alike_11 mv_X8_85 ob_0 (s_X8_counted g) (Nat.le_of_ble_eq_true rfl) ?_
      exact pw_iret' eX8_alike_14 h

def f_X8_instruction (x1 : Int32) (σ : HS) : Option (Int32 × HS) :=
  (f_X6_copyFrom 6 1 σ).bind fun σ1 =>
  (f_X6_addInstruction 6 x1 σ1).bind fun q2 =>
  (f_X8_settled q2.1 q2.2).bind fun q3 =>
  some (q3.1, q3.2)
set_option maxRecDepth 20000 in
theorem s_X8_instruction {d : Nat} {x1 : Int32} {σ : HS} {p : Int32 × HS} (h : f_X8_instruction x1 σ = some p) : hs_Spec (d + 4) yX8_instruction cX8_instruction 2 (some .int) [.ref 0, .int x1] σ (some (.int p.1), p.2) := by
  refine hs_spec' (by decide +kernel) rfl (Nat.le_of_ble_eq_true rfl) ?_
  show PW RX8 cX8_instruction 2 (hs_zM (d + 4) (some .int) (some (.int p.1), p.2)) 0 [some (.ref 0), some (.int x1)] [] σ
  rw [f_X8_instruction] at h
  refine pw_aload_n eX8_instruction_0 rfl ?_
  refine pw_getR (r := 6) eX8_instruction_1 fl_X8_16 ob_0 rfl ?_
  refine pw_aload_n eX8_instruction_4 rfl ?_
  refine pw_getR (r := 1) eX8_instruction_5 fl_X8_12 ob_0 rfl ?_
  obtain ⟨σ1, g, h⟩ := hs_bind h
  refine pw_mV1v eX8_instruction_8 mv_X8_65 is_6.1 (s_X6_copyFrom is_6 is_1 g) (Nat.le_of_ble_eq_true rfl) ?_
  refine pw_aload_n eX8_instruction_11 rfl ?_
  refine pw_aload_n eX8_instruction_12 rfl ?_
  refine pw_getR (r := 6) eX8_instruction_13 fl_X8_16 ob_0 rfl ?_
  refine pw_iload_n eX8_instruction_16 rfl ?_
  obtain ⟨q2, g, h⟩ := hs_bind h
  refine pw_mV1i eX8_instruction_17 mv_X8_120 is_6.1 (s_X6_addInstruction is_6 g) (Nat.le_of_ble_eq_true rfl) ?_
  obtain ⟨q3, g, h⟩ := hs_bind h
  refine pw_mV1i eX8_instruction_20 mv_X8_73 ob_0 (s_X8_settled g) (Nat.le_of_ble_eq_true rfl) ?_
  exact pw_iret' eX8_instruction_23 h

def f_X8_needs (x1 : Int32) (x2 : Int32) (x3 : Int32) (σ : HS) : Option (Int32 × HS) :=
  (f_X6_copyFrom 6 1 σ).bind fun σ1 =>
  (f_X6_changeNeed 6 x1 x2 x3 σ1).bind fun q2 =>
  (f_X8_settled q2.1 q2.2).bind fun q3 =>
  some (q3.1, q3.2)
set_option maxRecDepth 20000 in
theorem s_X8_needs {d : Nat} {x1 : Int32} {x2 : Int32} {x3 : Int32} {σ : HS} {p : Int32 × HS} (h : f_X8_needs x1 x2 x3 σ = some p) : hs_Spec (d + 5) yX8_needs cX8_needs 4 (some .int) [.ref 0, .int x1, .int x2, .int x3] σ (some (.int p.1), p.2) := by
  refine hs_spec' (by decide +kernel) rfl (Nat.le_of_ble_eq_true rfl) ?_
  show PW RX8 cX8_needs 4 (hs_zM (d + 5) (some .int) (some (.int p.1), p.2)) 0 [some (.ref 0), some (.int x1), some (.int x2), some (.int x3)] [] σ
  rw [f_X8_needs] at h
  refine pw_aload_n eX8_needs_0 rfl ?_
  refine pw_getR (r := 6) eX8_needs_1 fl_X8_16 ob_0 rfl ?_
  refine pw_aload_n eX8_needs_4 rfl ?_
  refine pw_getR (r := 1) eX8_needs_5 fl_X8_12 ob_0 rfl ?_
  obtain ⟨σ1, g, h⟩ := hs_bind h
  refine pw_mV1v eX8_needs_8 mv_X8_65 is_6.1 (s_X6_copyFrom is_6 is_1 g) (Nat.le_of_ble_eq_true rfl) ?_
  refine pw_aload_n eX8_needs_11 rfl ?_
  refine pw_aload_n eX8_needs_12 rfl ?_
  refine pw_getR (r := 6) eX8_needs_13 fl_X8_16 ob_0 rfl ?_
  refine pw_iload_n eX8_needs_16 rfl ?_
  refine pw_iload_n eX8_needs_17 rfl ?_
  refine pw_iload_n eX8_needs_18 rfl ?_
  obtain ⟨q2, g, h⟩ := hs_bind h
  refine pw_mV3i eX8_needs_19 mv_X8_123 is_6.1 (s_X6_changeNeed is_6 g) (Nat.le_of_ble_eq_true rfl) ?_
  obtain ⟨q3, g, h⟩ := hs_bind h
  refine pw_mV1i eX8_needs_22 mv_X8_73 ob_0 (s_X8_settled g) (Nat.le_of_ble_eq_true rfl) ?_
  exact pw_iret' eX8_needs_25 h

def f_X8_drops (x1 : Int32) (σ : HS) : Option (Int32 × HS) :=
  (f_X6_copyFrom 6 1 σ).bind fun σ1 =>
  (f_X6_removeInstruction 6 x1 σ1).bind fun q2 =>
  (f_X8_settled q2.1 q2.2).bind fun q3 =>
  some (q3.1, q3.2)
set_option maxRecDepth 20000 in
theorem s_X8_drops {d : Nat} {x1 : Int32} {σ : HS} {p : Int32 × HS} (h : f_X8_drops x1 σ = some p) : hs_Spec (d + 4) yX8_drops cX8_drops 2 (some .int) [.ref 0, .int x1] σ (some (.int p.1), p.2) := by
  refine hs_spec' (by decide +kernel) rfl (Nat.le_of_ble_eq_true rfl) ?_
  show PW RX8 cX8_drops 2 (hs_zM (d + 4) (some .int) (some (.int p.1), p.2)) 0 [some (.ref 0), some (.int x1)] [] σ
  rw [f_X8_drops] at h
  refine pw_aload_n eX8_drops_0 rfl ?_
  refine pw_getR (r := 6) eX8_drops_1 fl_X8_16 ob_0 rfl ?_
  refine pw_aload_n eX8_drops_4 rfl ?_
  refine pw_getR (r := 1) eX8_drops_5 fl_X8_12 ob_0 rfl ?_
  obtain ⟨σ1, g, h⟩ := hs_bind h
  refine pw_mV1v eX8_drops_8 mv_X8_65 is_6.1 (s_X6_copyFrom is_6 is_1 g) (Nat.le_of_ble_eq_true rfl) ?_
  refine pw_aload_n eX8_drops_11 rfl ?_
  refine pw_aload_n eX8_drops_12 rfl ?_
  refine pw_getR (r := 6) eX8_drops_13 fl_X8_16 ob_0 rfl ?_
  refine pw_iload_n eX8_drops_16 rfl ?_
  obtain ⟨q2, g, h⟩ := hs_bind h
  refine pw_mV1i eX8_drops_17 mv_X8_127 is_6.1 (s_X6_removeInstruction is_6 g) (Nat.le_of_ble_eq_true rfl) ?_
  obtain ⟨q3, g, h⟩ := hs_bind h
  refine pw_mV1i eX8_drops_20 mv_X8_73 ob_0 (s_X8_settled g) (Nat.le_of_ble_eq_true rfl) ?_
  exact pw_iret' eX8_drops_23 h

def f_X8_instructionFact (x1 : Int32) (x2 : Int32) (σ : HS) : Option (Int32 × HS) :=
  (f_X0_learn 1 σ).bind fun σ1 =>
  if x2 = 0 then
    (ldI (σ1.1 (1 + 3)) 6 x1).bind fun v2 =>
    some (v2, σ1)
  else if x2 = 1 then
    (ldI (σ1.1 45) 6 x1).bind fun v3 =>
    some (v3, σ1)
  else if x2 = 2 then
    (f_X6_needsOf 1 x1 1 σ1).bind fun q4 =>
    some (q4.1, q4.2)
  else if x2 = 3 then
    (f_X6_needsOf 1 x1 2 σ1).bind fun q5 =>
    some (q5.1, q5.2)
  else 
    (ldI (σ1.1 46) 6 x1).bind fun v6 =>
  some (v6, σ1)
set_option maxRecDepth 20000 in
theorem s_X8_instructionFact {d : Nat} {x1 : Int32} {x2 : Int32} {σ : HS} {p : Int32 × HS} (h : f_X8_instructionFact x1 x2 σ = some p) : hs_Spec (d + 4) yX8_instructionFact cX8_instructionFact 3 (some .int) [.ref 0, .int x1, .int x2] σ (some (.int p.1), p.2) := by
  refine hs_spec' (by decide +kernel) rfl (Nat.le_of_ble_eq_true rfl) ?_
  show PW RX8 cX8_instructionFact 3 (hs_zM (d + 4) (some .int) (some (.int p.1), p.2)) 0 [some (.ref 0), some (.int x1), some (.int x2)] [] σ
  rw [f_X8_instructionFact] at h
  refine pw_aload_n eX8_instructionFact_0 rfl ?_
  refine pw_getR (r := 42) eX8_instructionFact_1 fl_X8_36 ob_0 rfl ?_
  refine pw_aload_n eX8_instructionFact_4 rfl ?_
  refine pw_getR (r := 1) eX8_instructionFact_5 fl_X8_12 ob_0 rfl ?_
  obtain ⟨σ1, g, h⟩ := hs_bind h
  refine pw_mV1v eX8_instructionFact_8 mv_X8_136 ob_42 (s_X0_learn is_1 g) (Nat.le_of_ble_eq_true rfl) ?_
  refine pw_iload_n eX8_instructionFact_11 rfl ?_
  by_cases c0 : x2 = 0
  · have h := hs_it c0 h
    refine pw_tin (pc' := 44) eX8_instructionFact_12 (by rw [c0]; decide) (by rw [c0]; decide) (by rw [c0]; rfl) (by decide) ?_
    refine pw_aload_n eX8_instructionFact_44 rfl ?_
    refine pw_getR (r := 1) eX8_instructionFact_45 fl_X8_12 ob_0 rfl ?_
    refine pw_getR (r := (1 + 3)) eX8_instructionFact_48 fl_X8_216 is_1.1 rfl ?_
    refine pw_iload_n eX8_instructionFact_51 rfl ?_
    obtain ⟨v2, g, h⟩ := hs_bind h
    refine pw_iald' eX8_instructionFact_52 is_1.2.2.2.1 g ?_
    exact pw_iret' eX8_instructionFact_53 h
  have h := hs_ie c0 h
  by_cases c1 : x2 = 1
  · have h := hs_it c1 h
    refine pw_tin (pc' := 54) eX8_instructionFact_12 (by rw [c1]; decide) (by rw [c1]; decide) (by rw [c1]; rfl) (by decide) ?_
    refine pw_aload_n eX8_instructionFact_54 rfl ?_
    refine pw_getR (r := 42) eX8_instructionFact_55 fl_X8_36 ob_0 rfl ?_
    refine pw_getR (r := 45) eX8_instructionFact_58 fl_X8_219 ob_42 rfl ?_
    refine pw_iload_n eX8_instructionFact_61 rfl ?_
    obtain ⟨v3, g, h⟩ := hs_bind h
    refine pw_iald' eX8_instructionFact_62 ai_45 g ?_
    exact pw_iret' eX8_instructionFact_63 h
  have h := hs_ie c1 h
  by_cases c2 : x2 = 2
  · have h := hs_it c2 h
    refine pw_tin (pc' := 64) eX8_instructionFact_12 (by rw [c2]; decide) (by rw [c2]; decide) (by rw [c2]; rfl) (by decide) ?_
    refine pw_aload_n eX8_instructionFact_64 rfl ?_
    refine pw_getR (r := 1) eX8_instructionFact_65 fl_X8_12 ob_0 rfl ?_
    refine pw_iload_n eX8_instructionFact_68 rfl ?_
    refine pw_iconst eX8_instructionFact_69 ki_1 ?_
    obtain ⟨q4, g, h⟩ := hs_bind h
    refine pw_mV2i eX8_instructionFact_70 mv_X8_222 is_1.1 (s_X6_needsOf is_1 g) (Nat.le_of_ble_eq_true rfl) ?_
    exact pw_iret' eX8_instructionFact_73 h
  have h := hs_ie c2 h
  by_cases c3 : x2 = 3
  · have h := hs_it c3 h
    refine pw_tin (pc' := 74) eX8_instructionFact_12 (by rw [c3]; decide) (by rw [c3]; decide) (by rw [c3]; rfl) (by decide) ?_
    refine pw_aload_n eX8_instructionFact_74 rfl ?_
    refine pw_getR (r := 1) eX8_instructionFact_75 fl_X8_12 ob_0 rfl ?_
    refine pw_iload_n eX8_instructionFact_78 rfl ?_
    refine pw_iconst eX8_instructionFact_79 ki_2 ?_
    obtain ⟨q5, g, h⟩ := hs_bind h
    refine pw_mV2i eX8_instructionFact_80 mv_X8_222 is_1.1 (s_X6_needsOf is_1 g) (Nat.le_of_ble_eq_true rfl) ?_
    exact pw_iret' eX8_instructionFact_83 h
  have h := hs_ie c3 h
  refine hs_cut ?_ (fun pd => ?_) (P := PW RX8 cX8_instructionFact 3 (hs_zM (d + 4) (some .int) (some (.int p.1), p.2)) 84 [some (.ref 0), some (.int x1), some (.int x2)] [] σ1)
  rotate_left
  · rcases hs_sw x2 0 3 with o | o | o
    · exact pw_tout eX8_instructionFact_12 (Or.inl o) (by decide) pd
    · exact pw_tout eX8_instructionFact_12 (Or.inr o) (by decide) pd
    · have d0 := hs_nl (z := 0) c0 (by decide); have d1 := hs_nl (z := 1) c1 (by decide); have d2 := hs_nl (z := 2) c2 (by decide); have d3 := hs_nl (z := 3) c3 (by decide); skip
      exact absurd rfl (fun _ : (0 : Nat) = 0 => by omega)
  refine pw_aload_n eX8_instructionFact_84 rfl ?_
  refine pw_getR (r := 42) eX8_instructionFact_85 fl_X8_36 ob_0 rfl ?_
  refine pw_getR (r := 46) eX8_instructionFact_88 fl_X8_225 ob_42 rfl ?_
  refine pw_iload_n eX8_instructionFact_91 rfl ?_
  obtain ⟨v6, g, h⟩ := hs_bind h
  refine pw_iald' eX8_instructionFact_92 ai_46 g ?_
  exact pw_iret' eX8_instructionFact_93 h

def f_X8_about (x1 : Int32) (x2 : Int32) (σ : HS) : Option (Int32 × HS) :=
  (f_X6_hasInstruction 1 x1 σ).bind fun q1 =>
  if q1.1 = 0 then
    (f_X8_counted (-2) q1.2).bind fun q2 =>
    some (q2.1, q2.2)
  else
    if x2 < 0 then
      (f_X8_counted (-2) q1.2).bind fun q3 =>
      some (q3.1, q3.2)
    else
      if x2 ≤ 4 then
        (f_X8_instructionFact x1 x2 q1.2).bind fun q4 =>
        some (q4.1, q4.2)
      else
        (f_X8_counted (-2) q1.2).bind fun q5 =>
        some (q5.1, q5.2)
set_option maxRecDepth 20000 in
theorem s_X8_about {d : Nat} {x1 : Int32} {x2 : Int32} {σ : HS} {p : Int32 × HS} (h : f_X8_about x1 x2 σ = some p) : hs_Spec (d + 5) yX8_about cX8_about 3 (some .int) [.ref 0, .int x1, .int x2] σ (some (.int p.1), p.2) := by
  refine hs_spec' (by decide +kernel) rfl (Nat.le_of_ble_eq_true rfl) ?_
  show PW RX8 cX8_about 3 (hs_zM (d + 5) (some .int) (some (.int p.1), p.2)) 0 [some (.ref 0), some (.int x1), some (.int x2)] [] σ
  rw [f_X8_about] at h
  refine pw_aload_n eX8_about_0 rfl ?_
  refine pw_getR (r := 1) eX8_about_1 fl_X8_12 ob_0 rfl ?_
  refine pw_iload_n eX8_about_4 rfl ?_
  obtain ⟨q1, g, h⟩ := hs_bind h
  refine pw_mV1i eX8_about_5 mv_X8_130 is_1.1 (s_X6_hasInstruction is_1 g) (Nat.le_of_ble_eq_true rfl) ?_
  refine pw_if_eq (tgt := 20) eX8_about_8 (by decide) (fun c => ?_) (fun c => ?_)
  · have h := hs_it c h
    refine pw_aload_n eX8_about_20 rfl ?_
    refine pw_bipush eX8_about_21 kb_m2 ?_
    obtain ⟨q2, g, h⟩ := hs_bind h
    refine pw_mV1i eX8_about_23 mv_X8_85 ob_0 (s_X8_counted g) (Nat.le_of_ble_eq_true rfl) ?_
    exact pw_iret' eX8_about_26 h
  · have h := hs_ie c h
    refine pw_iload_n eX8_about_11 rfl ?_
    refine pw_if_lt (tgt := 20) eX8_about_12 (by decide) (fun c => ?_) (fun c => ?_)
    · have h := hs_it c h
      refine pw_aload_n eX8_about_20 rfl ?_
      refine pw_bipush eX8_about_21 kb_m2 ?_
      obtain ⟨q3, g, h⟩ := hs_bind h
      refine pw_mV1i eX8_about_23 mv_X8_85 ob_0 (s_X8_counted g) (Nat.le_of_ble_eq_true rfl) ?_
      exact pw_iret' eX8_about_26 h
    · have h := hs_ie c h
      refine pw_iload_n eX8_about_15 rfl ?_
      refine pw_iconst eX8_about_16 ki_4 ?_
      refine pw_icmp_le (tgt := 27) eX8_about_17 (by decide) (fun c => ?_) (fun c => ?_)
      · have h := hs_it c h
        refine pw_aload_n eX8_about_27 rfl ?_
        refine pw_iload_n eX8_about_28 rfl ?_
        refine pw_iload_n eX8_about_29 rfl ?_
        obtain ⟨q4, g, h⟩ := hs_bind h
        refine pw_mV2i eX8_about_30 mv_X8_133 ob_0 (s_X8_instructionFact g) (Nat.le_of_ble_eq_true rfl) ?_
        exact pw_iret' eX8_about_33 h
      · have h := hs_ie c h
        refine pw_aload_n eX8_about_20 rfl ?_
        refine pw_bipush eX8_about_21 kb_m2 ?_
        obtain ⟨q5, g, h⟩ := hs_bind h
        refine pw_mV1i eX8_about_23 mv_X8_85 ob_0 (s_X8_counted g) (Nat.le_of_ble_eq_true rfl) ?_
        exact pw_iret' eX8_about_26 h

def f_X8_bound (σ : HS) : Option (Int32 × HS) :=
  (f_X0_learn 1 σ).bind fun σ1 =>
  (f_X0_leastLength σ1).bind fun q2 =>
  some (q2.1, q2.2)
set_option maxRecDepth 20000 in
theorem s_X8_bound {d : Nat} {σ : HS} {p : Int32 × HS} (h : f_X8_bound σ = some p) : hs_Spec (d + 4) yX8_bound cX8_bound 1 (some .int) [.ref 0] σ (some (.int p.1), p.2) := by
  refine hs_spec' (by decide +kernel) rfl (Nat.le_of_ble_eq_true rfl) ?_
  show PW RX8 cX8_bound 1 (hs_zM (d + 4) (some .int) (some (.int p.1), p.2)) 0 [some (.ref 0)] [] σ
  rw [f_X8_bound] at h
  refine pw_aload_n eX8_bound_0 rfl ?_
  refine pw_getR (r := 42) eX8_bound_1 fl_X8_36 ob_0 rfl ?_
  refine pw_aload_n eX8_bound_4 rfl ?_
  refine pw_getR (r := 1) eX8_bound_5 fl_X8_12 ob_0 rfl ?_
  obtain ⟨σ1, g, h⟩ := hs_bind h
  refine pw_mV1v eX8_bound_8 mv_X8_136 ob_42 (s_X0_learn is_1 g) (Nat.le_of_ble_eq_true rfl) ?_
  refine pw_aload_n eX8_bound_11 rfl ?_
  refine pw_getR (r := 42) eX8_bound_12 fl_X8_36 ob_0 rfl ?_
  obtain ⟨q2, g, h⟩ := hs_bind h
  refine pw_mV0i eX8_bound_15 mv_X8_137 ob_42 (s_X0_leastLength g) (Nat.le_of_ble_eq_true rfl) ?_
  exact pw_iret' eX8_bound_18 h

def f_X8_best_23 (x1 : Int32) (σ : HS) : Option (Int32 × HS) :=
  (f_X0_learn 1 σ).bind fun σ1 =>
  (f_X5_learn σ1).bind fun σ2 =>
  if x1 = (-1) then
    some ((σ2.1 54 5), σ2)
  else
    (ldI (σ2.1 58) 6 x1).bind fun v3 =>
    some (v3, σ2)
set_option maxRecDepth 20000 in
theorem w_X8_best_23 {d : Nat} {p : Int32 × HS} : ∀ (x1 : Int32) (σ : HS), f_X8_best_23 x1 σ = some p → PW RX8 cX8_best 2 (hs_zM (d + 21) (some .int) (some (.int p.1), p.2)) 23 [some (.ref 0), some (.int x1)] [] σ := by
  intro x1 σ h
  rw [f_X8_best_23] at h
  refine pw_aload_n eX8_best_23 rfl ?_
  refine pw_getR (r := 42) eX8_best_24 fl_X8_36 ob_0 rfl ?_
  refine pw_aload_n eX8_best_27 rfl ?_
  refine pw_getR (r := 1) eX8_best_28 fl_X8_12 ob_0 rfl ?_
  obtain ⟨σ1, g, h⟩ := hs_bind h
  refine pw_mV1v eX8_best_31 mv_X8_136 ob_42 (s_X0_learn is_1 g) (Nat.le_of_ble_eq_true rfl) ?_
  refine pw_aload_n eX8_best_34 rfl ?_
  refine pw_getR (r := 54) eX8_best_35 fl_X8_50 ob_0 rfl ?_
  refine pw_aload_n eX8_best_38 rfl ?_
  refine pw_getR (r := 42) eX8_best_39 fl_X8_36 ob_0 rfl ?_
  obtain ⟨σ2, g, h⟩ := hs_bind h
  refine pw_mV1v eX8_best_42 mv_X8_140 ob_54 (s_X5_learn g) (Nat.le_of_ble_eq_true rfl) ?_
  refine pw_iload_n eX8_best_45 rfl ?_
  refine pw_iconst eX8_best_46 ki_m1 ?_
  refine pw_icmp_ne (tgt := 60) eX8_best_47 (by decide) (fun c => ?_) (fun c => ?_)
  · have h := hs_ie c h
    refine pw_aload_n eX8_best_60 rfl ?_
    refine pw_getR (r := 54) eX8_best_61 fl_X8_50 ob_0 rfl ?_
    refine pw_getR (r := 58) eX8_best_64 fl_X8_146 ob_54 rfl ?_
    refine pw_iload_n eX8_best_67 rfl ?_
    obtain ⟨v3, g, h⟩ := hs_bind h
    refine pw_iald' eX8_best_68 ai_58 g ?_
    exact pw_iret' eX8_best_69 h
  · have h := hs_it c h
    refine pw_aload_n eX8_best_50 rfl ?_
    refine pw_getR (r := 54) eX8_best_51 fl_X8_50 ob_0 rfl ?_
    refine pw_getI eX8_best_54 fl_X8_143 ob_54 rfl ?_
    refine pw_goto (pc' := 69) eX8_best_57 (by decide) ?_
    exact pw_iret' eX8_best_69 h
def f_X8_best (x1 : Int32) (σ : HS) : Option (Int32 × HS) :=
  if x1 = (-1) then
    f_X8_best_23 x1 σ
  else
    (f_X6_hasInstruction 1 x1 σ).bind fun q4 =>
    if q4.1 = 0 then
      (f_X8_counted (-2) q4.2).bind fun q5 =>
      some (q5.1, q5.2)
    else
      f_X8_best_23 x1 q4.2
set_option maxRecDepth 20000 in
theorem s_X8_best {d : Nat} {x1 : Int32} {σ : HS} {p : Int32 × HS} (h : f_X8_best x1 σ = some p) : hs_Spec (d + 21) yX8_best cX8_best 2 (some .int) [.ref 0, .int x1] σ (some (.int p.1), p.2) := by
  refine hs_spec' (by decide +kernel) rfl (Nat.le_of_ble_eq_true rfl) ?_
  show PW RX8 cX8_best 2 (hs_zM (d + 21) (some .int) (some (.int p.1), p.2)) 0 [some (.ref 0), some (.int x1)] [] σ
  rw [f_X8_best] at h
  refine pw_iload_n eX8_best_0 rfl ?_
  refine pw_iconst eX8_best_1 ki_m1 ?_
  refine pw_icmp_eq (tgt := 23) eX8_best_2 (by decide) (fun c => ?_) (fun c => ?_)
  · have h := hs_it c h
    exact w_X8_best_23 x1 σ h
  · have h := hs_ie c h
    refine pw_aload_n eX8_best_5 rfl ?_
    refine pw_getR (r := 1) eX8_best_6 fl_X8_12 ob_0 rfl ?_
    refine pw_iload_n eX8_best_9 rfl ?_
    obtain ⟨q4, g, h⟩ := hs_bind h
    refine pw_mV1i eX8_best_10 mv_X8_130 is_1.1 (s_X6_hasInstruction is_1 g) (Nat.le_of_ble_eq_true rfl) ?_
    refine pw_if_ne (tgt := 23) eX8_best_13 (by decide) (fun c => ?_) (fun c => ?_)
    · have h := hs_ie c h
      exact w_X8_best_23 x1 q4.2 h
    · have h := hs_it c h
      refine pw_aload_n eX8_best_16 rfl ?_
      refine pw_bipush eX8_best_17 kb_m2 ?_
      obtain ⟨q5, g, h⟩ := hs_bind h
      refine pw_mV1i eX8_best_19 mv_X8_85 ob_0 (s_X8_counted g) (Nat.le_of_ble_eq_true rfl) ?_
      exact pw_iret' eX8_best_22 h

def f_X8_rankedLength (x1 : Int32) (σ : HS) : Option (Int32 × HS) :=
  (f_X0_learn 1 σ).bind fun σ1 =>
  (f_X2_run x1 σ1).bind fun σ2 =>
  (f_X0_lengthOf 51 σ2).bind fun q3 =>
  some (q3.1, q3.2)
set_option maxRecDepth 20000 in
theorem s_X8_rankedLength {d : Nat} {x1 : Int32} {σ : HS} {p : Int32 × HS} (h : f_X8_rankedLength x1 σ = some p) : hs_Spec (d + 6) yX8_rankedLength cX8_rankedLength 2 (some .int) [.ref 0, .int x1] σ (some (.int p.1), p.2) := by
  refine hs_spec' (by decide +kernel) rfl (Nat.le_of_ble_eq_true rfl) ?_
  show PW RX8 cX8_rankedLength 2 (hs_zM (d + 6) (some .int) (some (.int p.1), p.2)) 0 [some (.ref 0), some (.int x1)] [] σ
  rw [f_X8_rankedLength] at h
  refine pw_aload_n eX8_rankedLength_0 rfl ?_
  refine pw_getR (r := 42) eX8_rankedLength_1 fl_X8_36 ob_0 rfl ?_
  refine pw_aload_n eX8_rankedLength_4 rfl ?_
  refine pw_getR (r := 1) eX8_rankedLength_5 fl_X8_12 ob_0 rfl ?_
  obtain ⟨σ1, g, h⟩ := hs_bind h
  refine pw_mV1v eX8_rankedLength_8 mv_X8_136 ob_42 (s_X0_learn is_1 g) (Nat.le_of_ble_eq_true rfl) ?_
  refine pw_aload_n eX8_rankedLength_11 rfl ?_
  refine pw_getR (r := 50) eX8_rankedLength_12 fl_X8_43 ob_0 rfl ?_
  refine pw_aload_n eX8_rankedLength_15 rfl ?_
  refine pw_getR (r := 42) eX8_rankedLength_16 fl_X8_36 ob_0 rfl ?_
  refine pw_iload_n eX8_rankedLength_19 rfl ?_
  obtain ⟨σ2, g, h⟩ := hs_bind h
  refine pw_mV2v eX8_rankedLength_20 mv_X8_228 ob_50 (s_X2_run g) (Nat.le_of_ble_eq_true rfl) ?_
  refine pw_aload_n eX8_rankedLength_23 rfl ?_
  refine pw_getR (r := 42) eX8_rankedLength_24 fl_X8_36 ob_0 rfl ?_
  refine pw_aload_n eX8_rankedLength_27 rfl ?_
  refine pw_getR (r := 50) eX8_rankedLength_28 fl_X8_43 ob_0 rfl ?_
  refine pw_getR (r := 51) eX8_rankedLength_31 fl_X8_152 ob_50 rfl ?_
  obtain ⟨q3, g, h⟩ := hs_bind h
  refine pw_mV1i eX8_rankedLength_34 mv_X8_232 ob_42 (s_X0_lengthOf ai_51 g) (Nat.le_of_ble_eq_true rfl) ?_
  exact pw_iret' eX8_rankedLength_37 h

def f_X8_ranked_32 (x1 : Int32) (x2 : Int32) (σ : HS) : Option (Int32 × HS) :=
  (f_X8_rankedLength x1 σ).bind fun q3 =>
  if x2 = (-1) then
    some (q3.1, q3.2)
  else
    (ldI (q3.2.1 51) 6 x2).bind fun v4 =>
    some (v4, q3.2)
set_option maxRecDepth 20000 in
theorem w_X8_ranked_32 {d : Nat} {p : Int32 × HS} : ∀ (x1 : Int32) (x2 : Int32) (σ : HS), f_X8_ranked_32 x1 x2 σ = some p → PW RX8 cX8_ranked 4 (hs_zM (d + 7) (some .int) (some (.int p.1), p.2)) 32 [some (.ref 0), some (.int x1), some (.int x2), none] [] σ := by
  intro x1 x2 σ h
  rw [f_X8_ranked_32] at h
  refine pw_aload_n eX8_ranked_32 rfl ?_
  refine pw_iload_n eX8_ranked_33 rfl ?_
  obtain ⟨q3, g, h⟩ := hs_bind h
  refine pw_mV1i eX8_ranked_34 mv_X8_149 ob_0 (s_X8_rankedLength g) (Nat.le_of_ble_eq_true rfl) ?_
  refine pw_istore_n eX8_ranked_37 rfl (by decide) rfl rfl ?_
  refine pw_iload_n eX8_ranked_38 rfl ?_
  refine pw_iconst eX8_ranked_39 ki_m1 ?_
  refine pw_icmp_ne (tgt := 47) eX8_ranked_40 (by decide) (fun c => ?_) (fun c => ?_)
  · have h := hs_ie c h
    refine pw_aload_n eX8_ranked_47 rfl ?_
    refine pw_getR (r := 50) eX8_ranked_48 fl_X8_43 ob_0 rfl ?_
    refine pw_getR (r := 51) eX8_ranked_51 fl_X8_152 ob_50 rfl ?_
    refine pw_iload_n eX8_ranked_54 rfl ?_
    obtain ⟨v4, g, h⟩ := hs_bind h
    refine pw_iald' eX8_ranked_55 ai_51 g ?_
    exact pw_iret' eX8_ranked_56 h
  · have h := hs_it c h
    refine pw_iload_n eX8_ranked_43 rfl ?_
    refine pw_goto (pc' := 56) eX8_ranked_44 (by decide) ?_
    exact pw_iret' eX8_ranked_56 h
def f_X8_ranked (x1 : Int32) (x2 : Int32) (σ : HS) : Option (Int32 × HS) :=
  if x1 < 0 then
    (f_X8_counted (-2) σ).bind fun q1 =>
    some (q1.1, q1.2)
  else
    if (3 : Int32) ≤ x1 then
      (f_X8_counted (-2) σ).bind fun q2 =>
      some (q2.1, q2.2)
    else
      if x2 = (-1) then
        f_X8_ranked_32 x1 x2 σ
      else
        (f_X6_hasInstruction 1 x2 σ).bind fun q5 =>
        if q5.1 = 0 then
          (f_X8_counted (-2) q5.2).bind fun q6 =>
          some (q6.1, q6.2)
        else
          f_X8_ranked_32 x1 x2 q5.2
set_option maxRecDepth 20000 in
theorem s_X8_ranked {d : Nat} {x1 : Int32} {x2 : Int32} {σ : HS} {p : Int32 × HS} (h : f_X8_ranked x1 x2 σ = some p) : hs_Spec (d + 7) yX8_ranked cX8_ranked 4 (some .int) [.ref 0, .int x1, .int x2] σ (some (.int p.1), p.2) := by
  refine hs_spec' (by decide +kernel) rfl (Nat.le_of_ble_eq_true rfl) ?_
  show PW RX8 cX8_ranked 4 (hs_zM (d + 7) (some .int) (some (.int p.1), p.2)) 0 [some (.ref 0), some (.int x1), some (.int x2), none] [] σ
  rw [f_X8_ranked] at h
  refine pw_iload_n eX8_ranked_0 rfl ?_
  refine pw_if_lt (tgt := 25) eX8_ranked_1 (by decide) (fun c => ?_) (fun c => ?_)
  · have h := hs_it c h
    refine pw_aload_n eX8_ranked_25 rfl ?_
    refine pw_bipush eX8_ranked_26 kb_m2 ?_
    obtain ⟨q1, g, h⟩ := hs_bind h
    refine pw_mV1i eX8_ranked_28 mv_X8_85 ob_0 (s_X8_counted g) (Nat.le_of_ble_eq_true rfl) ?_
    exact pw_iret' eX8_ranked_31 h
  · have h := hs_ie c h
    refine pw_iload_n eX8_ranked_4 rfl ?_
    refine pw_iconst eX8_ranked_5 ki_3 ?_
    refine pw_icmp_ge (tgt := 25) eX8_ranked_6 (by decide) (fun c => ?_) (fun c => ?_)
    · have h := hs_it c h
      refine pw_aload_n eX8_ranked_25 rfl ?_
      refine pw_bipush eX8_ranked_26 kb_m2 ?_
      obtain ⟨q2, g, h⟩ := hs_bind h
      refine pw_mV1i eX8_ranked_28 mv_X8_85 ob_0 (s_X8_counted g) (Nat.le_of_ble_eq_true rfl) ?_
      exact pw_iret' eX8_ranked_31 h
    · have h := hs_ie c h
      refine pw_iload_n eX8_ranked_9 rfl ?_
      refine pw_iconst eX8_ranked_10 ki_m1 ?_
      refine pw_icmp_eq (tgt := 32) eX8_ranked_11 (by decide) (fun c => ?_) (fun c => ?_)
      · have h := hs_it c h
        exact w_X8_ranked_32 x1 x2 σ h
      · have h := hs_ie c h
        refine pw_aload_n eX8_ranked_14 rfl ?_
        refine pw_getR (r := 1) eX8_ranked_15 fl_X8_12 ob_0 rfl ?_
        refine pw_iload_n eX8_ranked_18 rfl ?_
        obtain ⟨q5, g, h⟩ := hs_bind h
        refine pw_mV1i eX8_ranked_19 mv_X8_130 is_1.1 (s_X6_hasInstruction is_1 g) (Nat.le_of_ble_eq_true rfl) ?_
        refine pw_if_ne (tgt := 32) eX8_ranked_22 (by decide) (fun c => ?_) (fun c => ?_)
        · have h := hs_ie c h
          exact w_X8_ranked_32 x1 x2 q5.2 h
        · have h := hs_it c h
          refine pw_aload_n eX8_ranked_25 rfl ?_
          refine pw_bipush eX8_ranked_26 kb_m2 ?_
          obtain ⟨q6, g, h⟩ := hs_bind h
          refine pw_mV1i eX8_ranked_28 mv_X8_85 ob_0 (s_X8_counted g) (Nat.le_of_ble_eq_true rfl) ?_
          exact pw_iret' eX8_ranked_31 h

def f_X8_plan (x1 : Int32) (σ : HS) : Option (Int32 × HS) :=
  if x1 < 0 then
    (f_X8_counted (-2) σ).bind fun q1 =>
    some (q1.1, q1.2)
  else
    (f_X8_powerOfTen (σ.1 1 5) σ).bind fun q2 =>
    if x1 < q2.1 then
      (f_X0_learn 1 q2.2).bind fun σ3 =>
      (f_X0_lengthByFigures x1 σ3).bind fun q4 =>
      some (q4.1, q4.2)
    else
      (f_X8_counted (-2) q2.2).bind fun q5 =>
      some (q5.1, q5.2)
set_option maxRecDepth 20000 in
theorem s_X8_plan {d : Nat} {x1 : Int32} {σ : HS} {p : Int32 × HS} (h : f_X8_plan x1 σ = some p) : hs_Spec (d + 5) yX8_plan cX8_plan 2 (some .int) [.ref 0, .int x1] σ (some (.int p.1), p.2) := by
  refine hs_spec' (by decide +kernel) rfl (Nat.le_of_ble_eq_true rfl) ?_
  show PW RX8 cX8_plan 2 (hs_zM (d + 5) (some .int) (some (.int p.1), p.2)) 0 [some (.ref 0), some (.int x1)] [] σ
  rw [f_X8_plan] at h
  refine pw_iload_n eX8_plan_0 rfl ?_
  refine pw_if_lt (tgt := 18) eX8_plan_1 (by decide) (fun c => ?_) (fun c => ?_)
  · have h := hs_it c h
    refine pw_aload_n eX8_plan_18 rfl ?_
    refine pw_bipush eX8_plan_19 kb_m2 ?_
    obtain ⟨q1, g, h⟩ := hs_bind h
    refine pw_mV1i eX8_plan_21 mv_X8_85 ob_0 (s_X8_counted g) (Nat.le_of_ble_eq_true rfl) ?_
    exact pw_iret' eX8_plan_24 h
  · have h := hs_ie c h
    refine pw_iload_n eX8_plan_4 rfl ?_
    refine pw_aload_n eX8_plan_5 rfl ?_
    refine pw_getR (r := 1) eX8_plan_6 fl_X8_12 ob_0 rfl ?_
    refine pw_getI eX8_plan_9 fl_X8_153 is_1.1 rfl ?_
    obtain ⟨q2, g, h⟩ := hs_bind h
    refine pw_mS1i eX8_plan_12 ms_X8_156 (s_X8_powerOfTen g) (Nat.le_of_ble_eq_true rfl) ?_
    refine pw_icmp_lt (tgt := 25) eX8_plan_15 (by decide) (fun c => ?_) (fun c => ?_)
    · have h := hs_it c h
      refine pw_aload_n eX8_plan_25 rfl ?_
      refine pw_getR (r := 42) eX8_plan_26 fl_X8_36 ob_0 rfl ?_
      refine pw_aload_n eX8_plan_29 rfl ?_
      refine pw_getR (r := 1) eX8_plan_30 fl_X8_12 ob_0 rfl ?_
      obtain ⟨σ3, g, h⟩ := hs_bind h
      refine pw_mV1v eX8_plan_33 mv_X8_136 ob_42 (s_X0_learn is_1 g) (Nat.le_of_ble_eq_true rfl) ?_
      refine pw_aload_n eX8_plan_36 rfl ?_
      refine pw_getR (r := 42) eX8_plan_37 fl_X8_36 ob_0 rfl ?_
      refine pw_iload_n eX8_plan_40 rfl ?_
      obtain ⟨q4, g, h⟩ := hs_bind h
      refine pw_mV1i eX8_plan_41 mv_X8_159 ob_42 (s_X0_lengthByFigures g) (Nat.le_of_ble_eq_true rfl) ?_
      exact pw_iret' eX8_plan_44 h
    · have h := hs_ie c h
      refine pw_aload_n eX8_plan_18 rfl ?_
      refine pw_bipush eX8_plan_19 kb_m2 ?_
      obtain ⟨q5, g, h⟩ := hs_bind h
      refine pw_mV1i eX8_plan_21 mv_X8_85 ob_0 (s_X8_counted g) (Nat.le_of_ble_eq_true rfl) ?_
      exact pw_iret' eX8_plan_24 h

def f_X8_type (x1 : Int32) (σ : HS) : Option (Int32 × HS) :=
  if x1 < 0 then
    (f_X8_counted (-2) σ).bind fun q1 =>
    some (q1.1, q1.2)
  else
    if x1 ≤ 127 then
      if (σ.1 62 3) < 120 then
        (f_X4_append x1 σ).bind fun q2 =>
        some (q2.1, q2.2)
      else
        (f_X8_counted (-4) σ).bind fun q3 =>
        some (q3.1, q3.2)
    else
      (f_X8_counted (-2) σ).bind fun q4 =>
      some (q4.1, q4.2)
set_option maxRecDepth 20000 in
theorem s_X8_type {d : Nat} {x1 : Int32} {σ : HS} {p : Int32 × HS} (h : f_X8_type x1 σ = some p) : hs_Spec (d + 2) yX8_type cX8_type 2 (some .int) [.ref 0, .int x1] σ (some (.int p.1), p.2) := by
  refine hs_spec' (by decide +kernel) rfl (Nat.le_of_ble_eq_true rfl) ?_
  show PW RX8 cX8_type 2 (hs_zM (d + 2) (some .int) (some (.int p.1), p.2)) 0 [some (.ref 0), some (.int x1)] [] σ
  rw [f_X8_type] at h
  refine pw_iload_n eX8_type_0 rfl ?_
  refine pw_if_lt (tgt := 10) eX8_type_1 (by decide) (fun c => ?_) (fun c => ?_)
  · have h := hs_it c h
    refine pw_aload_n eX8_type_10 rfl ?_
    refine pw_bipush eX8_type_11 kb_m2 ?_
    obtain ⟨q1, g, h⟩ := hs_bind h
    refine pw_mV1i eX8_type_13 mv_X8_85 ob_0 (s_X8_counted g) (Nat.le_of_ble_eq_true rfl) ?_
    exact pw_iret' eX8_type_16 h
  · have h := hs_ie c h
    refine pw_iload_n eX8_type_4 rfl ?_
    refine pw_bipush eX8_type_5 kb_127 ?_
    refine pw_icmp_le (tgt := 17) eX8_type_7 (by decide) (fun c => ?_) (fun c => ?_)
    · have h := hs_it c h
      refine pw_aload_n eX8_type_17 rfl ?_
      refine pw_getR (r := 62) eX8_type_18 fl_X8_57 ob_0 rfl ?_
      refine pw_getI eX8_type_21 fl_X8_162 ob_62 rfl ?_
      refine pw_bipush eX8_type_24 kb_120 ?_
      refine pw_icmp_lt (tgt := 36) eX8_type_26 (by decide) (fun c => ?_) (fun c => ?_)
      · have h := hs_it c h
        refine pw_aload_n eX8_type_36 rfl ?_
        refine pw_getR (r := 62) eX8_type_37 fl_X8_57 ob_0 rfl ?_
        refine pw_iload_n eX8_type_40 rfl ?_
        obtain ⟨q2, g, h⟩ := hs_bind h
        refine pw_mV1i eX8_type_41 mv_X8_163 ob_62 (s_X4_append g) (Nat.le_of_ble_eq_true rfl) ?_
        exact pw_iret' eX8_type_44 h
      · have h := hs_ie c h
        refine pw_aload_n eX8_type_29 rfl ?_
        refine pw_bipush eX8_type_30 kb_m4 ?_
        obtain ⟨q3, g, h⟩ := hs_bind h
        refine pw_mV1i eX8_type_32 mv_X8_85 ob_0 (s_X8_counted g) (Nat.le_of_ble_eq_true rfl) ?_
        exact pw_iret' eX8_type_35 h
    · have h := hs_ie c h
      refine pw_aload_n eX8_type_10 rfl ?_
      refine pw_bipush eX8_type_11 kb_m2 ?_
      obtain ⟨q4, g, h⟩ := hs_bind h
      refine pw_mV1i eX8_type_13 mv_X8_85 ob_0 (s_X8_counted g) (Nat.le_of_ble_eq_true rfl) ?_
      exact pw_iret' eX8_type_16 h

def f_X8_clear (σ : HS) : Option (Int32 × HS) :=
  (f_X4_empty σ).bind fun q1 =>
  some (q1.1, q1.2)
set_option maxRecDepth 20000 in
theorem s_X8_clear {d : Nat} {σ : HS} {p : Int32 × HS} (h : f_X8_clear σ = some p) : hs_Spec (d + 2) yX8_clear cX8_clear 1 (some .int) [.ref 0] σ (some (.int p.1), p.2) := by
  refine hs_spec' (by decide +kernel) rfl (Nat.le_of_ble_eq_true rfl) ?_
  show PW RX8 cX8_clear 1 (hs_zM (d + 2) (some .int) (some (.int p.1), p.2)) 0 [some (.ref 0)] [] σ
  rw [f_X8_clear] at h
  refine pw_aload_n eX8_clear_0 rfl ?_
  refine pw_getR (r := 62) eX8_clear_1 fl_X8_57 ob_0 rfl ?_
  obtain ⟨q1, g, h⟩ := hs_bind h
  refine pw_mV0i eX8_clear_4 mv_X8_166 ob_62 (s_X4_empty g) (Nat.le_of_ble_eq_true rfl) ?_
  exact pw_iret' eX8_clear_7 h

def f_X8_reads_31 : Nat → Int32 → HS → Option (Int32 × HS)
  | 0, _, _ => none
  | n + 1, x2, σ =>
    if (σ.1 62 4) ≤ x2 then
      (f_X8_settled (σ.1 62 4) σ).bind fun q3 =>
      some (q3.1, q3.2)
    else
      (f_X4_perform 6 x2 σ).bind fun q4 =>
      if (0 : Int32) ≤ q4.1 then
        f_X8_reads_31 n (x2 + 1) q4.2
      else
        some (((-1000 : Int32) - x2), q4.2)
set_option maxRecDepth 20000 in
theorem w_X8_reads_31 {d : Nat} {p : Int32 × HS} : ∀ (n : Nat) (x2 : Int32) (σ : HS), f_X8_reads_31 n x2 σ = some p → PW RX8 cX8_reads 3 (hs_zM (d + 6) (some .int) (some (.int p.1), p.2)) 31 [some (.ref 0), none, some (.int x2)] [] σ := by
  intro n
  induction n with
  | zero =>
    intro x2 σ h
    rw [f_X8_reads_31] at h
    cases h
  | succ n ih =>
    intro x2 σ h
    rw [f_X8_reads_31] at h
    refine pw_iload_n eX8_reads_31 rfl ?_
    refine pw_aload_n eX8_reads_32 rfl ?_
    refine pw_getR (r := 62) eX8_reads_33 fl_X8_57 ob_0 rfl ?_
    refine pw_getI eX8_reads_36 fl_X8_172 ob_62 rfl ?_
    refine pw_icmp_ge (tgt := 69) eX8_reads_39 (by decide) (fun c => ?_) (fun c => ?_)
    · have h := hs_it c h
      refine pw_aload_n eX8_reads_69 rfl ?_
      refine pw_aload_n eX8_reads_70 rfl ?_
      refine pw_getR (r := 62) eX8_reads_71 fl_X8_57 ob_0 rfl ?_
      refine pw_getI eX8_reads_74 fl_X8_172 ob_62 rfl ?_
      obtain ⟨q3, g, h⟩ := hs_bind h
      refine pw_mV1i eX8_reads_77 mv_X8_73 ob_0 (s_X8_settled g) (Nat.le_of_ble_eq_true rfl) ?_
      exact pw_iret' eX8_reads_80 h
    · have h := hs_ie c h
      refine pw_aload_n eX8_reads_42 rfl ?_
      refine pw_getR (r := 62) eX8_reads_43 fl_X8_57 ob_0 rfl ?_
      refine pw_iload_n eX8_reads_46 rfl ?_
      refine pw_aload_n eX8_reads_47 rfl ?_
      refine pw_getR (r := 6) eX8_reads_48 fl_X8_16 ob_0 rfl ?_
      obtain ⟨q4, g, h⟩ := hs_bind h
      refine pw_mV2i eX8_reads_51 mv_X8_175 ob_62 (s_X4_perform is_6 g) (Nat.le_of_ble_eq_true rfl) ?_
      refine pw_if_ge (tgt := 63) eX8_reads_54 (by decide) (fun c => ?_) (fun c => ?_)
      · have h := hs_it c h
        refine pw_iinc eX8_reads_63 (by decide) rfl ki_1 rfl rfl ?_
        refine pw_goto (pc' := 31) eX8_reads_66 (by decide) ?_
        exact ih (x2 + 1) q4.2 h
      · have h := hs_ie c h
        refine pw_sipush eX8_reads_57 ks_m1000 ?_
        refine pw_iload_n eX8_reads_60 rfl ?_
        refine pw_isub eX8_reads_61 ?_
        exact pw_iret' eX8_reads_62 h
def f_X8_reads (σ : HS) : Option (Int32 × HS) :=
  (f_X4_scan σ).bind fun q1 =>
  if q1.1 = (-1) then
    (f_X6_copyFrom 6 1 q1.2).bind fun σ2 =>
    f_X8_reads_31 FU 0 σ2
  else
    some (((-10 : Int32) - q1.1), q1.2)
set_option maxRecDepth 20000 in
theorem s_X8_reads {d : Nat} {σ : HS} {p : Int32 × HS} (h : f_X8_reads σ = some p) : hs_Spec (d + 6) yX8_reads cX8_reads 3 (some .int) [.ref 0] σ (some (.int p.1), p.2) := by
  refine hs_spec' (by decide +kernel) rfl (Nat.le_of_ble_eq_true rfl) ?_
  show PW RX8 cX8_reads 3 (hs_zM (d + 6) (some .int) (some (.int p.1), p.2)) 0 [some (.ref 0), none, none] [] σ
  rw [f_X8_reads] at h
  refine pw_aload_n eX8_reads_0 rfl ?_
  refine pw_getR (r := 62) eX8_reads_1 fl_X8_57 ob_0 rfl ?_
  obtain ⟨q1, g, h⟩ := hs_bind h
  refine pw_mV0i eX8_reads_4 mv_X8_169 ob_62 (s_X4_scan g) (Nat.le_of_ble_eq_true rfl) ?_
  refine pw_istore_n eX8_reads_7 rfl (by decide) rfl rfl ?_
  refine pw_iload_n eX8_reads_8 rfl ?_
  refine pw_iconst eX8_reads_9 ki_m1 ?_
  refine pw_icmp_eq (tgt := 18) eX8_reads_10 (by decide) (fun c => ?_) (fun c => ?_)
  · have h := hs_it c h
    refine pw_aload_n eX8_reads_18 rfl ?_
    refine pw_getR (r := 6) eX8_reads_19 fl_X8_16 ob_0 rfl ?_
    refine pw_aload_n eX8_reads_22 rfl ?_
    refine pw_getR (r := 1) eX8_reads_23 fl_X8_12 ob_0 rfl ?_
    obtain ⟨σ2, g, h⟩ := hs_bind h
    refine pw_mV1v eX8_reads_26 mv_X8_65 is_6.1 (s_X6_copyFrom is_6 is_1 g) (Nat.le_of_ble_eq_true rfl) ?_
    refine pw_iconst eX8_reads_29 ki_0 ?_
    refine pw_istore_n eX8_reads_30 rfl (by decide) rfl rfl ?_
    exact pw_le (w_X8_reads_31 FU 0 σ2 h) ⟨rfl, rfl, trivial⟩
  · have h := hs_ie c h
    refine pw_bipush eX8_reads_13 kb_m10 ?_
    refine pw_iload_n eX8_reads_15 rfl ?_
    refine pw_isub eX8_reads_16 ?_
    exact pw_iret' eX8_reads_17 h

def f_X8_back (σ : HS) : Option (Int32 × HS) :=
  (f_X7_takeInto 1 σ).bind fun q1 =>
  if q1.1 = 0 then
    (f_X8_counted (-3) q1.2).bind fun q3 =>
    some (q3.1, q3.2)
  else
    (f_X8_forgetAnswers q1.2).bind fun σ2 =>
    some ((σ2.1 11 2), σ2)
set_option maxRecDepth 20000 in
theorem s_X8_back {d : Nat} {σ : HS} {p : Int32 × HS} (h : f_X8_back σ = some p) : hs_Spec (d + 3) yX8_back cX8_back 1 (some .int) [.ref 0] σ (some (.int p.1), p.2) := by
  refine hs_spec' (by decide +kernel) rfl (Nat.le_of_ble_eq_true rfl) ?_
  show PW RX8 cX8_back 1 (hs_zM (d + 3) (some .int) (some (.int p.1), p.2)) 0 [some (.ref 0)] [] σ
  rw [f_X8_back] at h
  refine pw_aload_n eX8_back_0 rfl ?_
  refine pw_getR (r := 11) eX8_back_1 fl_X8_22 ob_0 rfl ?_
  refine pw_aload_n eX8_back_4 rfl ?_
  refine pw_getR (r := 1) eX8_back_5 fl_X8_12 ob_0 rfl ?_
  obtain ⟨q1, g, h⟩ := hs_bind h
  refine pw_mV1i eX8_back_8 mv_X8_179 ob_11 (s_X7_takeInto is_1 g) (Nat.le_of_ble_eq_true rfl) ?_
  refine pw_if_ne (tgt := 21) eX8_back_11 (by decide) (fun c => ?_) (fun c => ?_)
  · have h := hs_ie c h
    refine pw_aload_n eX8_back_21 rfl ?_
    obtain ⟨σ2, g, h⟩ := hs_bind h
    refine pw_mV0v eX8_back_22 mv_X8_183 ob_0 (s_X8_forgetAnswers g) (Nat.le_of_ble_eq_true rfl) ?_
    refine pw_aload_n eX8_back_25 rfl ?_
    refine pw_getR (r := 11) eX8_back_26 fl_X8_22 ob_0 rfl ?_
    refine pw_getI eX8_back_29 fl_X8_186 ob_11 rfl ?_
    exact pw_iret' eX8_back_32 h
  · have h := hs_it c h
    refine pw_aload_n eX8_back_14 rfl ?_
    refine pw_bipush eX8_back_15 kb_m3 ?_
    obtain ⟨q3, g, h⟩ := hs_bind h
    refine pw_mV1i eX8_back_17 mv_X8_85 ob_0 (s_X8_counted g) (Nat.le_of_ble_eq_true rfl) ?_
    exact pw_iret' eX8_back_20 h

def f_X8_figure (x1 : Int32) (σ : HS) : Option (Int32 × HS) :=
  if x1 = 4 then
    some ((σ.1 62 3), σ)
  else if x1 = 5 then
    some ((σ.1 1 4), σ)
  else if x1 = 6 then
    some ((σ.1 1 5), σ)
  else if x1 = 7 then
    some ((σ.1 1 6), σ)
  else if x1 = 8 then
    some ((σ.1 1 7), σ)
  else if x1 = 9 then
    some ((σ.1 11 2), σ)
  else 
    if x1 < 0 then
    some (0, σ)
  else
    if (4 : Int32) ≤ x1 then
      some (0, σ)
    else
      (ldI (σ.1 66) 4 x1).bind fun v1 =>
      some (v1, σ)
set_option maxRecDepth 20000 in
theorem s_X8_figure {d : Nat} {x1 : Int32} {σ : HS} {p : Int32 × HS} (h : f_X8_figure x1 σ = some p) : hs_Spec (d + 1) yX8_figure cX8_figure 2 (some .int) [.ref 0, .int x1] σ (some (.int p.1), p.2) := by
  refine hs_spec' (by decide +kernel) rfl (Nat.le_of_ble_eq_true rfl) ?_
  show PW RX8 cX8_figure 2 (hs_zM (d + 1) (some .int) (some (.int p.1), p.2)) 0 [some (.ref 0), some (.int x1)] [] σ
  rw [f_X8_figure] at h
  refine pw_iload_n eX8_figure_0 rfl ?_
  by_cases c0 : x1 = 4
  · have h := hs_it c0 h
    refine pw_tin (pc' := 40) eX8_figure_1 (by rw [c0]; decide) (by rw [c0]; decide) (by rw [c0]; rfl) (by decide) ?_
    refine pw_aload_n eX8_figure_40 rfl ?_
    refine pw_getR (r := 62) eX8_figure_41 fl_X8_57 ob_0 rfl ?_
    refine pw_getI eX8_figure_44 fl_X8_162 ob_62 rfl ?_
    exact pw_iret' eX8_figure_47 h
  have h := hs_ie c0 h
  by_cases c1 : x1 = 5
  · have h := hs_it c1 h
    refine pw_tin (pc' := 48) eX8_figure_1 (by rw [c1]; decide) (by rw [c1]; decide) (by rw [c1]; rfl) (by decide) ?_
    refine pw_aload_n eX8_figure_48 rfl ?_
    refine pw_getR (r := 1) eX8_figure_49 fl_X8_12 ob_0 rfl ?_
    refine pw_getI eX8_figure_52 fl_X8_98 is_1.1 rfl ?_
    exact pw_iret' eX8_figure_55 h
  have h := hs_ie c1 h
  by_cases c2 : x1 = 6
  · have h := hs_it c2 h
    refine pw_tin (pc' := 56) eX8_figure_1 (by rw [c2]; decide) (by rw [c2]; decide) (by rw [c2]; rfl) (by decide) ?_
    refine pw_aload_n eX8_figure_56 rfl ?_
    refine pw_getR (r := 1) eX8_figure_57 fl_X8_12 ob_0 rfl ?_
    refine pw_getI eX8_figure_60 fl_X8_153 is_1.1 rfl ?_
    exact pw_iret' eX8_figure_63 h
  have h := hs_ie c2 h
  by_cases c3 : x1 = 7
  · have h := hs_it c3 h
    refine pw_tin (pc' := 64) eX8_figure_1 (by rw [c3]; decide) (by rw [c3]; decide) (by rw [c3]; rfl) (by decide) ?_
    refine pw_aload_n eX8_figure_64 rfl ?_
    refine pw_getR (r := 1) eX8_figure_65 fl_X8_12 ob_0 rfl ?_
    refine pw_getI eX8_figure_68 fl_X8_236 is_1.1 rfl ?_
    exact pw_iret' eX8_figure_71 h
  have h := hs_ie c3 h
  by_cases c4 : x1 = 8
  · have h := hs_it c4 h
    refine pw_tin (pc' := 72) eX8_figure_1 (by rw [c4]; decide) (by rw [c4]; decide) (by rw [c4]; rfl) (by decide) ?_
    refine pw_aload_n eX8_figure_72 rfl ?_
    refine pw_getR (r := 1) eX8_figure_73 fl_X8_12 ob_0 rfl ?_
    refine pw_getI eX8_figure_76 fl_X8_239 is_1.1 rfl ?_
    exact pw_iret' eX8_figure_79 h
  have h := hs_ie c4 h
  by_cases c5 : x1 = 9
  · have h := hs_it c5 h
    refine pw_tin (pc' := 80) eX8_figure_1 (by rw [c5]; decide) (by rw [c5]; decide) (by rw [c5]; rfl) (by decide) ?_
    refine pw_aload_n eX8_figure_80 rfl ?_
    refine pw_getR (r := 11) eX8_figure_81 fl_X8_22 ob_0 rfl ?_
    refine pw_getI eX8_figure_84 fl_X8_186 ob_11 rfl ?_
    exact pw_iret' eX8_figure_87 h
  have h := hs_ie c5 h
  refine hs_cut ?_ (fun pd => ?_) (P := PW RX8 cX8_figure 2 (hs_zM (d + 1) (some .int) (some (.int p.1), p.2)) 88 [some (.ref 0), some (.int x1)] [] σ)
  rotate_left
  · rcases hs_sw x1 4 9 with o | o | o
    · exact pw_tout eX8_figure_1 (Or.inl o) (by decide) pd
    · exact pw_tout eX8_figure_1 (Or.inr o) (by decide) pd
    · have d0 := hs_nl (z := 4) c0 (by decide); have d1 := hs_nl (z := 5) c1 (by decide); have d2 := hs_nl (z := 6) c2 (by decide); have d3 := hs_nl (z := 7) c3 (by decide); have d4 := hs_nl (z := 8) c4 (by decide); have d5 := hs_nl (z := 9) c5 (by decide); skip
      exact absurd rfl (fun _ : (0 : Nat) = 0 => by omega)
  refine pw_iload_n eX8_figure_88 rfl ?_
  refine pw_if_lt (tgt := 110) eX8_figure_89 (by decide) (fun c => ?_) (fun c => ?_)
  · have h := hs_it c h
    refine pw_iconst eX8_figure_110 ki_0 ?_
    exact pw_iret' eX8_figure_111 h
  · have h := hs_ie c h
    refine pw_iload_n eX8_figure_92 rfl ?_
    refine pw_aload_n eX8_figure_93 rfl ?_
    refine pw_getR (r := 66) eX8_figure_94 fl_X8_61 ob_0 rfl ?_
    refine pw_alen (v := 4) eX8_figure_97 ai_66 (by decide +kernel) ?_
    refine pw_icmp_ge (tgt := 110) eX8_figure_98 (by decide) (fun c => ?_) (fun c => ?_)
    · have h := hs_it c h
      refine pw_iconst eX8_figure_110 ki_0 ?_
      exact pw_iret' eX8_figure_111 h
    · have h := hs_ie c h
      refine pw_aload_n eX8_figure_101 rfl ?_
      refine pw_getR (r := 66) eX8_figure_102 fl_X8_61 ob_0 rfl ?_
      refine pw_iload_n eX8_figure_105 rfl ?_
      obtain ⟨v1, g, h⟩ := hs_bind h
      refine pw_iald' eX8_figure_106 ai_66 g ?_
      refine pw_goto (pc' := 111) eX8_figure_107 (by decide) ?_
      exact pw_iret' eX8_figure_111 h

def f_X8_told (x1 : Int32) (σ : HS) : Option (Int32 × HS) :=
  if x1 < 0 then
    (f_X8_counted (-2) σ).bind fun q1 =>
    some (q1.1, q1.2)
  else
    if x1 ≤ 9 then
      (f_X8_figure x1 σ).bind fun q2 =>
      some (q2.1, q2.2)
    else
      (f_X8_counted (-2) σ).bind fun q3 =>
      some (q3.1, q3.2)
set_option maxRecDepth 20000 in
theorem s_X8_told {d : Nat} {x1 : Int32} {σ : HS} {p : Int32 × HS} (h : f_X8_told x1 σ = some p) : hs_Spec (d + 2) yX8_told cX8_told 2 (some .int) [.ref 0, .int x1] σ (some (.int p.1), p.2) := by
  refine hs_spec' (by decide +kernel) rfl (Nat.le_of_ble_eq_true rfl) ?_
  show PW RX8 cX8_told 2 (hs_zM (d + 2) (some .int) (some (.int p.1), p.2)) 0 [some (.ref 0), some (.int x1)] [] σ
  rw [f_X8_told] at h
  refine pw_iload_n eX8_told_0 rfl ?_
  refine pw_if_lt (tgt := 10) eX8_told_1 (by decide) (fun c => ?_) (fun c => ?_)
  · have h := hs_it c h
    refine pw_aload_n eX8_told_10 rfl ?_
    refine pw_bipush eX8_told_11 kb_m2 ?_
    obtain ⟨q1, g, h⟩ := hs_bind h
    refine pw_mV1i eX8_told_13 mv_X8_85 ob_0 (s_X8_counted g) (Nat.le_of_ble_eq_true rfl) ?_
    exact pw_iret' eX8_told_16 h
  · have h := hs_ie c h
    refine pw_iload_n eX8_told_4 rfl ?_
    refine pw_bipush eX8_told_5 kb_9 ?_
    refine pw_icmp_le (tgt := 17) eX8_told_7 (by decide) (fun c => ?_) (fun c => ?_)
    · have h := hs_it c h
      refine pw_aload_n eX8_told_17 rfl ?_
      refine pw_iload_n eX8_told_18 rfl ?_
      obtain ⟨q2, g, h⟩ := hs_bind h
      refine pw_mV1i eX8_told_19 mv_X8_189 ob_0 (s_X8_figure g) (Nat.le_of_ble_eq_true rfl) ?_
      exact pw_iret' eX8_told_22 h
    · have h := hs_ie c h
      refine pw_aload_n eX8_told_10 rfl ?_
      refine pw_bipush eX8_told_11 kb_m2 ?_
      obtain ⟨q3, g, h⟩ := hs_bind h
      refine pw_mV1i eX8_told_13 mv_X8_85 ob_0 (s_X8_counted g) (Nat.le_of_ble_eq_true rfl) ?_
      exact pw_iret' eX8_told_16 h

def f_X8_digest_224 : Nat → Int64 → Int32 → HS → Option (Int64 × HS)
  | 0, _, _, _ => none
  | n + 1, x1, x3, σ =>
    if (3 : Int32) ≤ x3 then
      some (x1, σ)
    else
      (f_X8_rankedLength x3 σ).bind fun q7 =>
      f_X8_digest_224 n (((31 : Int64) * x1) + ((q7.1 : Int32).toInt64)) (x3 + 1) q7.2
set_option maxRecDepth 20000 in
theorem w_X8_digest_224 {d : Nat} {p : Int64 × HS} : ∀ (n : Nat) (x1 : Int64) (x3 : Int32) (σ : HS), f_X8_digest_224 n x1 x3 σ = some p → PW RX8 cX8_digest 5 (hs_zM (d + 21) (some .long) (some (.long p.1), p.2)) 224 [some (.ref 0), some (.long x1), none, some (.int x3), none] [] σ := by
  intro n
  induction n with
  | zero =>
    intro x1 x3 σ h
    rw [f_X8_digest_224] at h
    cases h
  | succ n ih =>
    intro x1 x3 σ h
    rw [f_X8_digest_224] at h
    refine pw_iload_n eX8_digest_224 rfl ?_
    refine pw_iconst eX8_digest_225 ki_3 ?_
    refine pw_icmp_ge (tgt := 248) eX8_digest_226 (by decide) (fun c => ?_) (fun c => ?_)
    · have h := hs_it c h
      refine pw_lload_n eX8_digest_248 rfl ?_
      exact pw_lret' eX8_digest_249 h
    · have h := hs_ie c h
      refine pw_ldc2 eX8_digest_229 kc_X8_194 ?_
      refine pw_lload_n eX8_digest_232 rfl ?_
      refine pw_lmul eX8_digest_233 ?_
      refine pw_aload_n eX8_digest_234 rfl ?_
      refine pw_iload_n eX8_digest_235 rfl ?_
      obtain ⟨q7, g, h⟩ := hs_bind h
      refine pw_mV1i eX8_digest_236 mv_X8_149 ob_0 (s_X8_rankedLength g) (Nat.le_of_ble_eq_true rfl) ?_
      refine pw_i2l eX8_digest_239 ?_
      refine pw_ladd eX8_digest_240 ?_
      refine pw_lstore_n eX8_digest_241 rfl (by decide) rfl rfl ?_
      refine pw_iinc eX8_digest_242 (by decide) rfl ki_1 rfl rfl ?_
      refine pw_goto (pc' := 224) eX8_digest_245 (by decide) ?_
      exact ih (((31 : Int64) * x1) + ((q7.1 : Int32).toInt64)) (x3 + 1) q7.2 h
def f_X8_digest_137 (k : Int64 → Int32 → HS → Option (Int64 × HS)) : Nat → Int64 → Int32 → Int32 → HS → Option (Int64 × HS)
  | 0, _, _, _, _ => none
  | n + 1, x1, x3, x4, σ =>
    if (4 : Int32) < x4 then
      k x1 x3 σ
    else
      (f_X8_instructionFact x3 x4 σ).bind fun q8 =>
      f_X8_digest_137 k n (((31 : Int64) * x1) + ((q8.1 : Int32).toInt64)) x3 (x4 + 1) q8.2
set_option maxRecDepth 20000 in
theorem w_X8_digest_137 {d : Nat} {p : Int64 × HS} {k : Int64 → Int32 → HS → Option (Int64 × HS)} (hk : ∀ (x1 : Int64) (x3 : Int32) (σ : HS), k x1 x3 σ = some p → PW RX8 cX8_digest 5 (hs_zM (d + 21) (some .long) (some (.long p.1), p.2)) 164 [some (.ref 0), some (.long x1), none, some (.int x3), none] [] σ) : ∀ (n : Nat) (x1 : Int64) (x3 : Int32) (x4 : Int32) (σ : HS), f_X8_digest_137 k n x1 x3 x4 σ = some p → PW RX8 cX8_digest 5 (hs_zM (d + 21) (some .long) (some (.long p.1), p.2)) 137 [some (.ref 0), some (.long x1), none, some (.int x3), some (.int x4)] [] σ := by
  intro n
  induction n with
  | zero =>
    intro x1 x3 x4 σ h
    rw [f_X8_digest_137] at h
    cases h
  | succ n ih =>
    intro x1 x3 x4 σ h
    rw [f_X8_digest_137] at h
    refine pw_iload eX8_digest_137 rfl ?_
    refine pw_iconst eX8_digest_139 ki_4 ?_
    refine pw_icmp_gt (tgt := 164) eX8_digest_140 (by decide) (fun c => ?_) (fun c => ?_)
    · have h := hs_it c h
      exact pw_le (hk x1 x3 σ h) ⟨rfl, rfl, rfl, trivial⟩
    · have h := hs_ie c h
      refine pw_ldc2 eX8_digest_143 kc_X8_194 ?_
      refine pw_lload_n eX8_digest_146 rfl ?_
      refine pw_lmul eX8_digest_147 ?_
      refine pw_aload_n eX8_digest_148 rfl ?_
      refine pw_iload_n eX8_digest_149 rfl ?_
      refine pw_iload eX8_digest_150 rfl ?_
      obtain ⟨q8, g, h⟩ := hs_bind h
      refine pw_mV2i eX8_digest_152 mv_X8_133 ob_0 (s_X8_instructionFact g) (Nat.le_of_ble_eq_true rfl) ?_
      refine pw_i2l eX8_digest_155 ?_
      refine pw_ladd eX8_digest_156 ?_
      refine pw_lstore_n eX8_digest_157 rfl (by decide) rfl rfl ?_
      refine pw_iinc eX8_digest_158 (by decide) rfl ki_1 rfl rfl ?_
      refine pw_goto (pc' := 137) eX8_digest_161 (by decide) ?_
      exact ih (((31 : Int64) * x1) + ((q8.1 : Int32).toInt64)) x3 (x4 + 1) q8.2 h
def f_X8_digest_123 : Nat → Int64 → Int32 → HS → Option (Int64 × HS)
  | 0, _, _, _ => none
  | n + 1, x1, x3, σ =>
    if (σ.1 1 5) ≤ x3 then
      (f_X0_learn 1 σ).bind fun σ4 =>
      (f_X0_leastLength σ4).bind fun q5 =>
      (f_X5_learn q5.2).bind fun σ6 =>
      f_X8_digest_224 FU (((31 : Int64) * (((31 : Int64) * x1) + ((q5.1 : Int32).toInt64))) + (((σ6.1 54 5) : Int32).toInt64)) 0 σ6
    else
      f_X8_digest_137 (fun e9 e10 σ11 =>
        f_X8_digest_123 n e9 (e10 + 1) σ11) FU x1 x3 0 σ
set_option maxRecDepth 20000 in
theorem w_X8_digest_123 {d : Nat} {p : Int64 × HS} : ∀ (n : Nat) (x1 : Int64) (x3 : Int32) (σ : HS), f_X8_digest_123 n x1 x3 σ = some p → PW RX8 cX8_digest 5 (hs_zM (d + 21) (some .long) (some (.long p.1), p.2)) 123 [some (.ref 0), some (.long x1), none, some (.int x3), none] [] σ := by
  intro n
  induction n with
  | zero =>
    intro x1 x3 σ h
    rw [f_X8_digest_123] at h
    cases h
  | succ n ih =>
    intro x1 x3 σ h
    rw [f_X8_digest_123] at h
    refine pw_iload_n eX8_digest_123 rfl ?_
    refine pw_aload_n eX8_digest_124 rfl ?_
    refine pw_getR (r := 1) eX8_digest_125 fl_X8_12 ob_0 rfl ?_
    refine pw_getI eX8_digest_128 fl_X8_153 is_1.1 rfl ?_
    refine pw_icmp_ge (tgt := 170) eX8_digest_131 (by decide) (fun c => ?_) (fun c => ?_)
    · have h := hs_it c h
      refine pw_aload_n eX8_digest_170 rfl ?_
      refine pw_getR (r := 42) eX8_digest_171 fl_X8_36 ob_0 rfl ?_
      refine pw_aload_n eX8_digest_174 rfl ?_
      refine pw_getR (r := 1) eX8_digest_175 fl_X8_12 ob_0 rfl ?_
      obtain ⟨σ4, g, h⟩ := hs_bind h
      refine pw_mV1v eX8_digest_178 mv_X8_136 ob_42 (s_X0_learn is_1 g) (Nat.le_of_ble_eq_true rfl) ?_
      refine pw_ldc2 eX8_digest_181 kc_X8_194 ?_
      refine pw_lload_n eX8_digest_184 rfl ?_
      refine pw_lmul eX8_digest_185 ?_
      refine pw_aload_n eX8_digest_186 rfl ?_
      refine pw_getR (r := 42) eX8_digest_187 fl_X8_36 ob_0 rfl ?_
      obtain ⟨q5, g, h⟩ := hs_bind h
      refine pw_mV0i eX8_digest_190 mv_X8_137 ob_42 (s_X0_leastLength g) (Nat.le_of_ble_eq_true rfl) ?_
      refine pw_i2l eX8_digest_193 ?_
      refine pw_ladd eX8_digest_194 ?_
      refine pw_lstore_n eX8_digest_195 rfl (by decide) rfl rfl ?_
      refine pw_aload_n eX8_digest_196 rfl ?_
      refine pw_getR (r := 54) eX8_digest_197 fl_X8_50 ob_0 rfl ?_
      refine pw_aload_n eX8_digest_200 rfl ?_
      refine pw_getR (r := 42) eX8_digest_201 fl_X8_36 ob_0 rfl ?_
      obtain ⟨σ6, g, h⟩ := hs_bind h
      refine pw_mV1v eX8_digest_204 mv_X8_140 ob_54 (s_X5_learn g) (Nat.le_of_ble_eq_true rfl) ?_
      refine pw_ldc2 eX8_digest_207 kc_X8_194 ?_
      refine pw_lload_n eX8_digest_210 rfl ?_
      refine pw_lmul eX8_digest_211 ?_
      refine pw_aload_n eX8_digest_212 rfl ?_
      refine pw_getR (r := 54) eX8_digest_213 fl_X8_50 ob_0 rfl ?_
      refine pw_getI eX8_digest_216 fl_X8_143 ob_54 rfl ?_
      refine pw_i2l eX8_digest_219 ?_
      refine pw_ladd eX8_digest_220 ?_
      refine pw_lstore_n eX8_digest_221 rfl (by decide) rfl rfl ?_
      refine pw_iconst eX8_digest_222 ki_0 ?_
      refine pw_istore_n eX8_digest_223 rfl (by decide) rfl rfl ?_
      exact w_X8_digest_224 FU (((31 : Int64) * (((31 : Int64) * x1) + ((q5.1 : Int32).toInt64))) + (((σ6.1 54 5) : Int32).toInt64)) 0 σ6 h
    · have h := hs_ie c h
      refine pw_iconst eX8_digest_134 ki_0 ?_
      refine pw_istore eX8_digest_135 (by decide) rfl rfl ?_
      refine w_X8_digest_137 (fun e9 e10 σ11 h => ?_) FU x1 x3 0 σ h
      refine pw_iinc eX8_digest_164 (by decide) rfl ki_1 rfl rfl ?_
      refine pw_goto (pc' := 123) eX8_digest_167 (by decide) ?_
      exact ih e9 (e10 + 1) σ11 h
def f_X8_digest_47 (k : Int64 → Int32 → HS → Option (Int64 × HS)) : Nat → Int64 → Int32 → Int32 → HS → Option (Int64 × HS)
  | 0, _, _, _, _ => none
  | n + 1, x1, x3, x4, σ =>
    if (4 : Int32) < x4 then
      k x1 x3 σ
    else
      (f_X8_kindFact x3 x4 σ).bind fun q12 =>
      f_X8_digest_47 k n (((31 : Int64) * x1) + ((q12.1 : Int32).toInt64)) x3 (x4 + 1) q12.2
set_option maxRecDepth 20000 in
theorem w_X8_digest_47 {d : Nat} {p : Int64 × HS} {k : Int64 → Int32 → HS → Option (Int64 × HS)} (hk : ∀ (x1 : Int64) (x3 : Int32) (σ : HS), k x1 x3 σ = some p → PW RX8 cX8_digest 5 (hs_zM (d + 21) (some .long) (some (.long p.1), p.2)) 74 [some (.ref 0), some (.long x1), none, some (.int x3), none] [] σ) : ∀ (n : Nat) (x1 : Int64) (x3 : Int32) (x4 : Int32) (σ : HS), f_X8_digest_47 k n x1 x3 x4 σ = some p → PW RX8 cX8_digest 5 (hs_zM (d + 21) (some .long) (some (.long p.1), p.2)) 47 [some (.ref 0), some (.long x1), none, some (.int x3), some (.int x4)] [] σ := by
  intro n
  induction n with
  | zero =>
    intro x1 x3 x4 σ h
    rw [f_X8_digest_47] at h
    cases h
  | succ n ih =>
    intro x1 x3 x4 σ h
    rw [f_X8_digest_47] at h
    refine pw_iload eX8_digest_47 rfl ?_
    refine pw_iconst eX8_digest_49 ki_4 ?_
    refine pw_icmp_gt (tgt := 74) eX8_digest_50 (by decide) (fun c => ?_) (fun c => ?_)
    · have h := hs_it c h
      exact pw_le (hk x1 x3 σ h) ⟨rfl, rfl, rfl, trivial⟩
    · have h := hs_ie c h
      refine pw_ldc2 eX8_digest_53 kc_X8_194 ?_
      refine pw_lload_n eX8_digest_56 rfl ?_
      refine pw_lmul eX8_digest_57 ?_
      refine pw_aload_n eX8_digest_58 rfl ?_
      refine pw_iload_n eX8_digest_59 rfl ?_
      refine pw_iload eX8_digest_60 rfl ?_
      obtain ⟨q12, g, h⟩ := hs_bind h
      refine pw_mV2i eX8_digest_62 mv_X8_88 ob_0 (s_X8_kindFact g) (Nat.le_of_ble_eq_true rfl) ?_
      refine pw_i2l eX8_digest_65 ?_
      refine pw_ladd eX8_digest_66 ?_
      refine pw_lstore_n eX8_digest_67 rfl (by decide) rfl rfl ?_
      refine pw_iinc eX8_digest_68 (by decide) rfl ki_1 rfl rfl ?_
      refine pw_goto (pc' := 47) eX8_digest_71 (by decide) ?_
      exact ih (((31 : Int64) * x1) + ((q12.1 : Int32).toInt64)) x3 (x4 + 1) q12.2 h
def f_X8_digest_33 : Nat → Int64 → Int32 → HS → Option (Int64 × HS)
  | 0, _, _, _ => none
  | n + 1, x1, x3, σ =>
    if (σ.1 1 4) ≤ x3 then
      (f_X1_learn 1 σ).bind fun σ1 =>
      (f_X1_statesOrMuch σ1).bind fun q2 =>
      (f_X1_classesOrMuch q2.2).bind fun q3 =>
      f_X8_digest_123 FU (((31 : Int64) * (((31 : Int64) * x1) + ((q2.1 : Int32).toInt64))) + ((q3.1 : Int32).toInt64)) 0 q3.2
    else
      f_X8_digest_47 (fun e13 e14 σ15 =>
        f_X8_digest_33 n e13 (e14 + 1) σ15) FU x1 x3 0 σ
set_option maxRecDepth 20000 in
theorem w_X8_digest_33 {d : Nat} {p : Int64 × HS} : ∀ (n : Nat) (x1 : Int64) (x3 : Int32) (σ : HS), f_X8_digest_33 n x1 x3 σ = some p → PW RX8 cX8_digest 5 (hs_zM (d + 21) (some .long) (some (.long p.1), p.2)) 33 [some (.ref 0), some (.long x1), none, some (.int x3), none] [] σ := by
  intro n
  induction n with
  | zero =>
    intro x1 x3 σ h
    rw [f_X8_digest_33] at h
    cases h
  | succ n ih =>
    intro x1 x3 σ h
    rw [f_X8_digest_33] at h
    refine pw_iload_n eX8_digest_33 rfl ?_
    refine pw_aload_n eX8_digest_34 rfl ?_
    refine pw_getR (r := 1) eX8_digest_35 fl_X8_12 ob_0 rfl ?_
    refine pw_getI eX8_digest_38 fl_X8_98 is_1.1 rfl ?_
    refine pw_icmp_ge (tgt := 80) eX8_digest_41 (by decide) (fun c => ?_) (fun c => ?_)
    · have h := hs_it c h
      refine pw_aload_n eX8_digest_80 rfl ?_
      refine pw_getR (r := 38) eX8_digest_81 fl_X8_29 ob_0 rfl ?_
      refine pw_aload_n eX8_digest_84 rfl ?_
      refine pw_getR (r := 1) eX8_digest_85 fl_X8_12 ob_0 rfl ?_
      obtain ⟨σ1, g, h⟩ := hs_bind h
      refine pw_mV1v eX8_digest_88 mv_X8_91 ob_38 (s_X1_learn is_1 g) (Nat.le_of_ble_eq_true rfl) ?_
      refine pw_ldc2 eX8_digest_91 kc_X8_194 ?_
      refine pw_lload_n eX8_digest_94 rfl ?_
      refine pw_lmul eX8_digest_95 ?_
      refine pw_aload_n eX8_digest_96 rfl ?_
      refine pw_getR (r := 38) eX8_digest_97 fl_X8_29 ob_0 rfl ?_
      obtain ⟨q2, g, h⟩ := hs_bind h
      refine pw_mV0i eX8_digest_100 mv_X8_94 ob_38 (s_X1_statesOrMuch g) (Nat.le_of_ble_eq_true rfl) ?_
      refine pw_i2l eX8_digest_103 ?_
      refine pw_ladd eX8_digest_104 ?_
      refine pw_lstore_n eX8_digest_105 rfl (by decide) rfl rfl ?_
      refine pw_ldc2 eX8_digest_106 kc_X8_194 ?_
      refine pw_lload_n eX8_digest_109 rfl ?_
      refine pw_lmul eX8_digest_110 ?_
      refine pw_aload_n eX8_digest_111 rfl ?_
      refine pw_getR (r := 38) eX8_digest_112 fl_X8_29 ob_0 rfl ?_
      obtain ⟨q3, g, h⟩ := hs_bind h
      refine pw_mV0i eX8_digest_115 mv_X8_113 ob_38 (s_X1_classesOrMuch g) (Nat.le_of_ble_eq_true rfl) ?_
      refine pw_i2l eX8_digest_118 ?_
      refine pw_ladd eX8_digest_119 ?_
      refine pw_lstore_n eX8_digest_120 rfl (by decide) rfl rfl ?_
      refine pw_iconst eX8_digest_121 ki_0 ?_
      refine pw_istore_n eX8_digest_122 rfl (by decide) rfl rfl ?_
      exact w_X8_digest_123 FU (((31 : Int64) * (((31 : Int64) * x1) + ((q2.1 : Int32).toInt64))) + ((q3.1 : Int32).toInt64)) 0 q3.2 h
    · have h := hs_ie c h
      refine pw_iconst eX8_digest_44 ki_0 ?_
      refine pw_istore eX8_digest_45 (by decide) rfl rfl ?_
      refine w_X8_digest_47 (fun e13 e14 σ15 h => ?_) FU x1 x3 0 σ h
      refine pw_iinc eX8_digest_74 (by decide) rfl ki_1 rfl rfl ?_
      refine pw_goto (pc' := 33) eX8_digest_77 (by decide) ?_
      exact ih e13 (e14 + 1) σ15 h
def f_X8_digest_6 : Nat → Int64 → Int32 → HS → Option (Int64 × HS)
  | 0, _, _, _ => none
  | n + 1, x1, x3, σ =>
    if (9 : Int32) < x3 then
      f_X8_digest_33 FU x1 0 σ
    else
      (f_X8_figure x3 σ).bind fun q16 =>
      f_X8_digest_6 n (((31 : Int64) * x1) + ((q16.1 : Int32).toInt64)) (x3 + 1) q16.2
set_option maxRecDepth 20000 in
theorem w_X8_digest_6 {d : Nat} {p : Int64 × HS} : ∀ (n : Nat) (x1 : Int64) (x3 : Int32) (σ : HS), f_X8_digest_6 n x1 x3 σ = some p → PW RX8 cX8_digest 5 (hs_zM (d + 21) (some .long) (some (.long p.1), p.2)) 6 [some (.ref 0), some (.long x1), none, some (.int x3), none] [] σ := by
  intro n
  induction n with
  | zero =>
    intro x1 x3 σ h
    rw [f_X8_digest_6] at h
    cases h
  | succ n ih =>
    intro x1 x3 σ h
    rw [f_X8_digest_6] at h
    refine pw_iload_n eX8_digest_6 rfl ?_
    refine pw_bipush eX8_digest_7 kb_9 ?_
    refine pw_icmp_gt (tgt := 31) eX8_digest_9 (by decide) (fun c => ?_) (fun c => ?_)
    · have h := hs_it c h
      refine pw_iconst eX8_digest_31 ki_0 ?_
      refine pw_istore_n eX8_digest_32 rfl (by decide) rfl rfl ?_
      exact w_X8_digest_33 FU x1 0 σ h
    · have h := hs_ie c h
      refine pw_ldc2 eX8_digest_12 kc_X8_194 ?_
      refine pw_lload_n eX8_digest_15 rfl ?_
      refine pw_lmul eX8_digest_16 ?_
      refine pw_aload_n eX8_digest_17 rfl ?_
      refine pw_iload_n eX8_digest_18 rfl ?_
      obtain ⟨q16, g, h⟩ := hs_bind h
      refine pw_mV1i eX8_digest_19 mv_X8_189 ob_0 (s_X8_figure g) (Nat.le_of_ble_eq_true rfl) ?_
      refine pw_i2l eX8_digest_22 ?_
      refine pw_ladd eX8_digest_23 ?_
      refine pw_lstore_n eX8_digest_24 rfl (by decide) rfl rfl ?_
      refine pw_iinc eX8_digest_25 (by decide) rfl ki_1 rfl rfl ?_
      refine pw_goto (pc' := 6) eX8_digest_28 (by decide) ?_
      exact ih (((31 : Int64) * x1) + ((q16.1 : Int32).toInt64)) (x3 + 1) q16.2 h
def f_X8_digest (σ : HS) : Option (Int64 × HS) :=
  f_X8_digest_6 FU 2459 0 σ
set_option maxRecDepth 20000 in
theorem s_X8_digest {d : Nat} {σ : HS} {p : Int64 × HS} (h : f_X8_digest σ = some p) : hs_Spec (d + 21) yX8_digest cX8_digest 5 (some .long) [.ref 0] σ (some (.long p.1), p.2) := by
  refine hs_spec' (by decide +kernel) rfl (Nat.le_of_ble_eq_true rfl) ?_
  show PW RX8 cX8_digest 5 (hs_zM (d + 21) (some .long) (some (.long p.1), p.2)) 0 [some (.ref 0), none, none, none, none] [] σ
  rw [f_X8_digest] at h
  refine pw_ldc2 eX8_digest_0 kc_X8_192 ?_
  refine pw_lstore_n eX8_digest_3 rfl (by decide) rfl rfl ?_
  refine pw_iconst eX8_digest_4 ki_0 ?_
  refine pw_istore_n eX8_digest_5 rfl (by decide) rfl rfl ?_
  exact w_X8_digest_6 FU 2459 0 σ h
