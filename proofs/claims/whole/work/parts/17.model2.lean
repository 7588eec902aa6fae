def f_X9_holds (x1 : Int32) (σ : HS) : Option (Int32 × HS) :=
  (f_X9_ofKind x1 0 σ).bind fun q1 =>
  (f_X9_ofKind x1 1 q1.2).bind fun q2 =>
  (f_X9_ofKind x1 2 q2.2).bind fun q3 =>
  some (((q1.1 ||| (q2.1 <<< (4 &&& 31))) ||| (q3.1 <<< (8 &&& 31))), q3.2)
set_option maxRecDepth 20000 in
theorem s_X9_holds {d : Nat} {x1 : Int32} {σ : HS} {p : Int32 × HS} (h : f_X9_holds x1 σ = some p) : hs_Spec (d + 2) yX9_holds cX9_holds 2 (some .int) [.ref 67, .int x1] σ (some (.int p.1), p.2) := by
  refine hs_spec' (by decide +kernel) rfl (Nat.le_of_ble_eq_true rfl) ?_
  show PW RX9 cX9_holds 2 (hs_zM (d + 2) (some .int) (some (.int p.1), p.2)) 0 [some (.ref 67), some (.int x1)] [] σ
  rw [f_X9_holds] at h
  refine pw_aload_n eX9_holds_0 rfl ?_
  refine pw_iload_n eX9_holds_1 rfl ?_
  refine pw_iconst eX9_holds_2 ki_0 ?_
  obtain ⟨q1, g, h⟩ := hs_bind h
  refine pw_mV2i eX9_holds_3 mv_X9_78 ob_67 (s_X9_ofKind g) (Nat.le_of_ble_eq_true rfl) ?_
  refine pw_aload_n eX9_holds_6 rfl ?_
  refine pw_iload_n eX9_holds_7 rfl ?_
  refine pw_iconst eX9_holds_8 ki_1 ?_
  obtain ⟨q2, g, h⟩ := hs_bind h
  refine pw_mV2i eX9_holds_9 mv_X9_78 ob_67 (s_X9_ofKind g) (Nat.le_of_ble_eq_true rfl) ?_
  refine pw_iconst eX9_holds_12 ki_4 ?_
  refine pw_ishl eX9_holds_13 ?_
  refine pw_ior eX9_holds_14 ?_
  refine pw_aload_n eX9_holds_15 rfl ?_
  refine pw_iload_n eX9_holds_16 rfl ?_
  refine pw_iconst eX9_holds_17 ki_2 ?_
  obtain ⟨q3, g, h⟩ := hs_bind h
  refine pw_mV2i eX9_holds_18 mv_X9_78 ob_67 (s_X9_ofKind g) (Nat.le_of_ble_eq_true rfl) ?_
  refine pw_bipush eX9_holds_21 kb_8 ?_
  refine pw_ishl eX9_holds_23 ?_
  refine pw_ior eX9_holds_24 ?_
  exact pw_iret' eX9_holds_25 h

def f_X9_read (x1 : Int32) (x2 : Int32) (σ : HS) : Option (Int32 × HS) :=
  if x2 = 0 then
    some (((x1 >>> (1 &&& 31)) &&& 1911), σ)
  else
    (f_X9_holds (x2 - 1) σ).bind fun q1 =>
    if (x1 &&& q1.1) = 0 then
      some ((x1 ||| q1.1), q1.2)
    else
      some ((-1), q1.2)
set_option maxRecDepth 20000 in
theorem s_X9_read {d : Nat} {x1 : Int32} {x2 : Int32} {σ : HS} {p : Int32 × HS} (h : f_X9_read x1 x2 σ = some p) : hs_Spec (d + 3) yX9_read cX9_read 4 (some .int) [.ref 67, .int x1, .int x2] σ (some (.int p.1), p.2) := by
  refine hs_spec' (by decide +kernel) rfl (Nat.le_of_ble_eq_true rfl) ?_
  show PW RX9 cX9_read 4 (hs_zM (d + 3) (some .int) (some (.int p.1), p.2)) 0 [some (.ref 67), some (.int x1), some (.int x2), none] [] σ
  rw [f_X9_read] at h
  refine pw_iload_n eX9_read_0 rfl ?_
  refine pw_if_ne (tgt := 12) eX9_read_1 (by decide) (fun c => ?_) (fun c => ?_)
  · have h := hs_ie c h
    refine pw_aload_n eX9_read_12 rfl ?_
    refine pw_iload_n eX9_read_13 rfl ?_
    refine pw_iconst eX9_read_14 ki_1 ?_
    refine pw_isub eX9_read_15 ?_
    obtain ⟨q1, g, h⟩ := hs_bind h
    refine pw_mV1i eX9_read_16 mv_X9_125 ob_67 (s_X9_holds g) (Nat.le_of_ble_eq_true rfl) ?_
    refine pw_istore_n eX9_read_19 rfl (by decide) rfl rfl ?_
    refine pw_iload_n eX9_read_20 rfl ?_
    refine pw_iload_n eX9_read_21 rfl ?_
    refine pw_iand eX9_read_22 ?_
    refine pw_if_ne (tgt := 32) eX9_read_23 (by decide) (fun c => ?_) (fun c => ?_)
    · have h := hs_ie c h
      refine pw_iconst eX9_read_32 ki_m1 ?_
      exact pw_iret' eX9_read_33 h
    · have h := hs_it c h
      refine pw_iload_n eX9_read_26 rfl ?_
      refine pw_iload_n eX9_read_27 rfl ?_
      refine pw_ior eX9_read_28 ?_
      refine pw_goto (pc' := 33) eX9_read_29 (by decide) ?_
      exact pw_iret' eX9_read_33 h
  · have h := hs_it c h
    refine pw_iload_n eX9_read_4 rfl ?_
    refine pw_iconst eX9_read_5 ki_1 ?_
    refine pw_ishr eX9_read_6 ?_
    refine pw_sipush eX9_read_7 ks_1911 ?_
    refine pw_iand eX9_read_10 ?_
    exact pw_iret' eX9_read_11 h

def f_X9_number_26 (x1 : Int32) (x2 : Int32) (σ : HS) : Option (Int32 × HS) :=
  if x2 = (σ.1 67 6) then
    if (150 : Int32) < x2 then
      some (x2, σ)
    else
      (stI σ 72 151 x2 x1).bind fun σ1 =>
      some (x2, (sI σ1 67 6 ((σ1.1 67 6) + 1)))
  else
    some (x2, σ)
set_option maxRecDepth 20000 in
theorem w_X9_number_26 {d : Nat} {p : Int32 × HS} : ∀ (x1 : Int32) (x2 : Int32) (σ : HS), f_X9_number_26 x1 x2 σ = some p → PW RX9 cX9_number 3 (hs_zM (d + 1) (some .int) (some (.int p.1), p.2)) 26 [some (.ref 67), some (.int x1), some (.int x2)] [] σ := by
  intro x1 x2 σ h
  rw [f_X9_number_26] at h
  refine pw_iload_n eX9_number_26 rfl ?_
  refine pw_aload_n eX9_number_27 rfl ?_
  refine pw_getI eX9_number_28 fl_X9_128 ob_67 rfl ?_
  refine pw_icmp_ne (tgt := 58) eX9_number_31 (by decide) (fun c => ?_) (fun c => ?_)
  · have h := hs_ie c h
    refine pw_iload_n eX9_number_58 rfl ?_
    exact pw_iret' eX9_number_59 h
  · have h := hs_it c h
    refine pw_iload_n eX9_number_34 rfl ?_
    refine pw_sipush eX9_number_35 ks_150 ?_
    refine pw_icmp_gt (tgt := 58) eX9_number_38 (by decide) (fun c => ?_) (fun c => ?_)
    · have h := hs_it c h
      refine pw_iload_n eX9_number_58 rfl ?_
      exact pw_iret' eX9_number_59 h
    · have h := hs_ie c h
      refine pw_aload_n eX9_number_41 rfl ?_
      refine pw_getR (r := 72) eX9_number_42 fl_X9_22 ob_67 rfl ?_
      refine pw_iload_n eX9_number_45 rfl ?_
      refine pw_iload_n eX9_number_46 rfl ?_
      obtain ⟨σ1, g, h⟩ := hs_bind h
      refine pw_iast' eX9_number_47 ai_72 g ?_
      refine pw_aload_n eX9_number_48 rfl ?_
      refine pw_dup eX9_number_49 rfl ?_
      refine pw_getI eX9_number_50 fl_X9_128 ob_67 rfl ?_
      refine pw_iconst eX9_number_53 ki_1 ?_
      refine pw_iadd eX9_number_54 ?_
      refine pw_putI eX9_number_55 fw_X9_128 ob_67 rfl ?_
      refine pw_iload_n eX9_number_58 rfl ?_
      exact pw_iret' eX9_number_59 h
def f_X9_number_2 : Nat → Int32 → Int32 → HS → Option (Int32 × HS)
  | 0, _, _, _ => none
  | n + 1, x1, x2, σ =>
    if (σ.1 67 6) ≤ x2 then
      f_X9_number_26 x1 x2 σ
    else
      (ldI (σ.1 72) 151 x2).bind fun v2 =>
      if v2 = x1 then
        f_X9_number_26 x1 x2 σ
      else
        f_X9_number_2 n x1 (x2 + 1) σ
set_option maxRecDepth 20000 in
theorem w_X9_number_2 {d : Nat} {p : Int32 × HS} : ∀ (n : Nat) (x1 : Int32) (x2 : Int32) (σ : HS), f_X9_number_2 n x1 x2 σ = some p → PW RX9 cX9_number 3 (hs_zM (d + 1) (some .int) (some (.int p.1), p.2)) 2 [some (.ref 67), some (.int x1), some (.int x2)] [] σ := by
  intro n
  induction n with
  | zero =>
    intro x1 x2 σ h
    rw [f_X9_number_2] at h
    cases h
  | succ n ih =>
    intro x1 x2 σ h
    rw [f_X9_number_2] at h
    refine pw_iload_n eX9_number_2 rfl ?_
    refine pw_aload_n eX9_number_3 rfl ?_
    refine pw_getI eX9_number_4 fl_X9_128 ob_67 rfl ?_
    refine pw_icmp_ge (tgt := 26) eX9_number_7 (by decide) (fun c => ?_) (fun c => ?_)
    · have h := hs_it c h
      exact w_X9_number_26 x1 x2 σ h
    · have h := hs_ie c h
      refine pw_aload_n eX9_number_10 rfl ?_
      refine pw_getR (r := 72) eX9_number_11 fl_X9_22 ob_67 rfl ?_
      refine pw_iload_n eX9_number_14 rfl ?_
      obtain ⟨v2, g, h⟩ := hs_bind h
      refine pw_iald' eX9_number_15 ai_72 g ?_
      refine pw_iload_n eX9_number_16 rfl ?_
      refine pw_icmp_eq (tgt := 26) eX9_number_17 (by decide) (fun c => ?_) (fun c => ?_)
      · have h := hs_it c h
        exact w_X9_number_26 x1 x2 σ h
      · have h := hs_ie c h
        refine pw_iinc eX9_number_20 (by decide) rfl ki_1 rfl rfl ?_
        refine pw_goto (pc' := 2) eX9_number_23 (by decide) ?_
        exact ih x1 (x2 + 1) σ h
def f_X9_number (x1 : Int32) (σ : HS) : Option (Int32 × HS) :=
  f_X9_number_2 FU x1 0 σ
set_option maxRecDepth 20000 in
theorem s_X9_number {d : Nat} {x1 : Int32} {σ : HS} {p : Int32 × HS} (h : f_X9_number x1 σ = some p) : hs_Spec (d + 1) yX9_number cX9_number 3 (some .int) [.ref 67, .int x1] σ (some (.int p.1), p.2) := by
  refine hs_spec' (by decide +kernel) rfl (Nat.le_of_ble_eq_true rfl) ?_
  show PW RX9 cX9_number 3 (hs_zM (d + 1) (some .int) (some (.int p.1), p.2)) 0 [some (.ref 67), some (.int x1), none] [] σ
  rw [f_X9_number] at h
  refine pw_iconst eX9_number_0 ki_0 ?_
  refine pw_istore_n eX9_number_1 rfl (by decide) rfl rfl ?_
  exact w_X9_number_2 FU x1 0 σ h

def f_X9_findStates_61 (rec : Int32 → Int32 → HS → Option (HS)) (x1 : Int32) (x2 : Int32) (t0 : Int32) (σ : HS) : Option (HS) :=
  (ldI (σ.1 72) 151 x1).bind fun v4 =>
  (f_X9_read v4 t0 σ).bind fun q5 =>
  if q5.1 = (-1) then
    (stI q5.2 73 906 (((6 : Int32) * x1) + t0) (-1)).bind fun σ8 =>
    rec x1 (x2 + 1) σ8
  else
    (f_X9_number q5.1 q5.2).bind fun q6 =>
    (stI q6.2 73 906 (((6 : Int32) * x1) + t0) q6.1).bind fun σ7 =>
    rec x1 (x2 + 1) σ7
set_option maxRecDepth 20000 in
theorem w_X9_findStates_61 {d : Nat} {p : HS} {rec : Int32 → Int32 → HS → Option (HS)} (hrec : ∀ (x1 : Int32) (x2 : Int32) (σ : HS), rec x1 x2 σ = some p → PW RX9 cX9_findStates 5 (hs_zM (d + 4) none (none, p)) 34 [some (.ref 67), some (.int x1), some (.int x2), none, none] [] σ) : ∀ (x1 : Int32) (x2 : Int32) (t0 : Int32) (σ : HS), f_X9_findStates_61 rec x1 x2 t0 σ = some p → PW RX9 cX9_findStates 5 (hs_zM (d + 4) none (none, p)) 61 [some (.ref 67), some (.int x1), some (.int x2), none, none] [.int t0] σ := by
  intro x1 x2 t0 σ h
  rw [f_X9_findStates_61] at h
  refine pw_istore_n eX9_findStates_61 rfl (by decide) rfl rfl ?_
  refine pw_aload_n eX9_findStates_62 rfl ?_
  refine pw_aload_n eX9_findStates_63 rfl ?_
  refine pw_getR (r := 72) eX9_findStates_64 fl_X9_22 ob_67 rfl ?_
  refine pw_iload_n eX9_findStates_67 rfl ?_
  obtain ⟨v4, g, h⟩ := hs_bind h
  refine pw_iald' eX9_findStates_68 ai_72 g ?_
  refine pw_iload_n eX9_findStates_69 rfl ?_
  obtain ⟨q5, g, h⟩ := hs_bind h
  refine pw_mV2i eX9_findStates_70 mv_X9_131 ob_67 (s_X9_read g) (Nat.le_of_ble_eq_true rfl) ?_
  refine pw_istore eX9_findStates_73 (by decide) rfl rfl ?_
  refine pw_aload_n eX9_findStates_75 rfl ?_
  refine pw_getR (r := 73) eX9_findStates_76 fl_X9_25 ob_67 rfl ?_
  refine pw_bipush eX9_findStates_79 kb_6 ?_
  refine pw_iload_n eX9_findStates_81 rfl ?_
  refine pw_imul eX9_findStates_82 ?_
  refine pw_iload_n eX9_findStates_83 rfl ?_
  refine pw_iadd eX9_findStates_84 ?_
  refine pw_iload eX9_findStates_85 rfl ?_
  refine pw_iconst eX9_findStates_87 ki_m1 ?_
  refine pw_icmp_ne (tgt := 95) eX9_findStates_88 (by decide) (fun c => ?_) (fun c => ?_)
  · have h := hs_ie c h
    refine pw_aload_n eX9_findStates_95 rfl ?_
    refine pw_iload eX9_findStates_96 rfl ?_
    obtain ⟨q6, g, h⟩ := hs_bind h
    refine pw_mV1i eX9_findStates_98 mv_X9_134 ob_67 (s_X9_number g) (Nat.le_of_ble_eq_true rfl) ?_
    obtain ⟨σ7, g, h⟩ := hs_bind h
    refine pw_iast' eX9_findStates_101 ai_73 g ?_
    refine pw_iinc eX9_findStates_102 (by decide) rfl ki_1 rfl rfl ?_
    refine pw_goto (pc' := 34) eX9_findStates_105 (by decide) ?_
    exact pw_le (hrec x1 (x2 + 1) σ7 h) ⟨rfl, rfl, rfl, trivial⟩
  · have h := hs_it c h
    refine pw_iconst eX9_findStates_91 ki_m1 ?_
    refine pw_goto (pc' := 101) eX9_findStates_92 (by decide) ?_
    obtain ⟨σ8, g, h⟩ := hs_bind h
    refine pw_iast' eX9_findStates_101 ai_73 g ?_
    refine pw_iinc eX9_findStates_102 (by decide) rfl ki_1 rfl rfl ?_
    refine pw_goto (pc' := 34) eX9_findStates_105 (by decide) ?_
    exact pw_le (hrec x1 (x2 + 1) σ8 h) ⟨rfl, rfl, rfl, trivial⟩
def f_X9_findStates_34 (k : Int32 → HS → Option (HS)) : Nat → Int32 → Int32 → HS → Option (HS)
  | 0, _, _, _ => none
  | n + 1, x1, x2, σ =>
    (ldI (σ.1 68) 66 0).bind fun v2 =>
    if (v2 + 1) < x2 then
      k x1 σ
    else
      (ldI (σ.1 68) 66 0).bind fun v3 =>
      if x2 ≤ v3 then
        f_X9_findStates_61 (f_X9_findStates_34 k n) x1 x2 x2 σ
      else
        f_X9_findStates_61 (f_X9_findStates_34 k n) x1 x2 0 σ
set_option maxRecDepth 20000 in
theorem w_X9_findStates_34 {d : Nat} {p : HS} {k : Int32 → HS → Option (HS)} (hk : ∀ (x1 : Int32) (σ : HS), k x1 σ = some p → PW RX9 cX9_findStates 5 (hs_zM (d + 4) none (none, p)) 108 [some (.ref 67), some (.int x1), none, none, none] [] σ) : ∀ (n : Nat) (x1 : Int32) (x2 : Int32) (σ : HS), f_X9_findStates_34 k n x1 x2 σ = some p → PW RX9 cX9_findStates 5 (hs_zM (d + 4) none (none, p)) 34 [some (.ref 67), some (.int x1), some (.int x2), none, none] [] σ := by
  intro n
  induction n with
  | zero =>
    intro x1 x2 σ h
    rw [f_X9_findStates_34] at h
    cases h
  | succ n ih =>
    intro x1 x2 σ h
    rw [f_X9_findStates_34] at h
    refine pw_iload_n eX9_findStates_34 rfl ?_
    refine pw_aload_n eX9_findStates_35 rfl ?_
    refine pw_getR (r := 68) eX9_findStates_36 fl_X9_7 ob_67 rfl ?_
    refine pw_iconst eX9_findStates_39 ki_0 ?_
    obtain ⟨v2, g, h⟩ := hs_bind h
    refine pw_iald' eX9_findStates_40 ai_68 g ?_
    refine pw_iconst eX9_findStates_41 ki_1 ?_
    refine pw_iadd eX9_findStates_42 ?_
    refine pw_icmp_gt (tgt := 108) eX9_findStates_43 (by decide) (fun c => ?_) (fun c => ?_)
    · have h := hs_it c h
      exact pw_le (hk x1 σ h) ⟨rfl, rfl, trivial⟩
    · have h := hs_ie c h
      refine pw_iload_n eX9_findStates_46 rfl ?_
      refine pw_aload_n eX9_findStates_47 rfl ?_
      refine pw_getR (r := 68) eX9_findStates_48 fl_X9_7 ob_67 rfl ?_
      refine pw_iconst eX9_findStates_51 ki_0 ?_
      obtain ⟨v3, g, h⟩ := hs_bind h
      refine pw_iald' eX9_findStates_52 ai_68 g ?_
      refine pw_icmp_le (tgt := 60) eX9_findStates_53 (by decide) (fun c => ?_) (fun c => ?_)
      · have h := hs_it c h
        refine pw_iload_n eX9_findStates_60 rfl ?_
        exact w_X9_findStates_61 ih x1 x2 x2 σ h
      · have h := hs_ie c h
        refine pw_iconst eX9_findStates_56 ki_0 ?_
        refine pw_goto (pc' := 61) eX9_findStates_57 (by decide) ?_
        exact w_X9_findStates_61 ih x1 x2 0 σ h
def f_X9_findStates_14 : Nat → Int32 → HS → Option (HS)
  | 0, _, _ => none
  | n + 1, x1, σ =>
    if (σ.1 67 6) ≤ x1 then
      some σ
    else
      if (150 : Int32) < (σ.1 67 6) then
        some σ
      else
        f_X9_findStates_34 (fun e9 σ10 =>
          f_X9_findStates_14 n (e9 + 1) σ10) FU x1 1 σ
set_option maxRecDepth 20000 in
theorem w_X9_findStates_14 {d : Nat} {p : HS} : ∀ (n : Nat) (x1 : Int32) (σ : HS), f_X9_findStates_14 n x1 σ = some p → PW RX9 cX9_findStates 5 (hs_zM (d + 4) none (none, p)) 14 [some (.ref 67), some (.int x1), none, none, none] [] σ := by
  intro n
  induction n with
  | zero =>
    intro x1 σ h
    rw [f_X9_findStates_14] at h
    cases h
  | succ n ih =>
    intro x1 σ h
    rw [f_X9_findStates_14] at h
    refine pw_iload_n eX9_findStates_14 rfl ?_
    refine pw_aload_n eX9_findStates_15 rfl ?_
    refine pw_getI eX9_findStates_16 fl_X9_128 ob_67 rfl ?_
    refine pw_icmp_ge (tgt := 114) eX9_findStates_19 (by decide) (fun c => ?_) (fun c => ?_)
    · have h := hs_it c h
      exact pw_vret' eX9_findStates_114 h
    · have h := hs_ie c h
      refine pw_aload_n eX9_findStates_22 rfl ?_
      refine pw_getI eX9_findStates_23 fl_X9_128 ob_67 rfl ?_
      refine pw_sipush eX9_findStates_26 ks_150 ?_
      refine pw_icmp_gt (tgt := 114) eX9_findStates_29 (by decide) (fun c => ?_) (fun c => ?_)
      · have h := hs_it c h
        exact pw_vret' eX9_findStates_114 h
      · have h := hs_ie c h
        refine pw_iconst eX9_findStates_32 ki_1 ?_
        refine pw_istore_n eX9_findStates_33 rfl (by decide) rfl rfl ?_
        refine w_X9_findStates_34 (fun e9 σ10 h => ?_) FU x1 1 σ h
        refine pw_iinc eX9_findStates_108 (by decide) rfl ki_1 rfl rfl ?_
        refine pw_goto (pc' := 14) eX9_findStates_111 (by decide) ?_
        exact ih (e9 + 1) σ10 h
def f_X9_findStates (σ : HS) : Option (HS) :=
  (stI (sI σ 67 6 1) 72 151 0 0).bind fun σ1 =>
  f_X9_findStates_14 FU 0 σ1
set_option maxRecDepth 20000 in
theorem s_X9_findStates {d : Nat} {σ : HS} {p : HS} (h : f_X9_findStates σ = some p) : hs_Spec (d + 4) yX9_findStates cX9_findStates 5 none [.ref 67] σ (none, p) := by
  refine hs_spec' (by decide +kernel) rfl (Nat.le_of_ble_eq_true rfl) ?_
  show PW RX9 cX9_findStates 5 (hs_zM (d + 4) none (none, p)) 0 [some (.ref 67), none, none, none, none] [] σ
  rw [f_X9_findStates] at h
  refine pw_aload_n eX9_findStates_0 rfl ?_
  refine pw_iconst eX9_findStates_1 ki_1 ?_
  refine pw_putI eX9_findStates_2 fw_X9_128 ob_67 rfl ?_
  refine pw_aload_n eX9_findStates_5 rfl ?_
  refine pw_getR (r := 72) eX9_findStates_6 fl_X9_22 ob_67 rfl ?_
  refine pw_iconst eX9_findStates_9 ki_0 ?_
  refine pw_iconst eX9_findStates_10 ki_0 ?_
  obtain ⟨σ1, g, h⟩ := hs_bind h
  refine pw_iast' eX9_findStates_11 ai_72 g ?_
  refine pw_iconst eX9_findStates_12 ki_0 ?_
  refine pw_istore_n eX9_findStates_13 rfl (by decide) rfl rfl ?_
  exact w_X9_findStates_14 FU 0 σ1 h

def f_X9_areAlike_79 (rec : Int32 → Int32 → Int32 → Int32 → HS → Option (Int32 × HS)) (x1 : Int32) (x2 : Int32) (x4 : Int32) (x5 : Int32) (x6 : Int32) (σ : HS) : Option (Int32 × HS) :=
  if x5 = x6 then
    rec x1 x2 1 (x4 + 1) σ
  else
    rec x1 x2 0 (x4 + 1) σ
set_option maxRecDepth 20000 in
theorem w_X9_areAlike_79 {d : Nat} {p : Int32 × HS} {rec : Int32 → Int32 → Int32 → Int32 → HS → Option (Int32 × HS)} (hrec : ∀ (x1 : Int32) (x2 : Int32) (x3 : Int32) (x4 : Int32) (σ : HS), rec x1 x2 x3 x4 σ = some p → PW RX9 cX9_areAlike 7 (hs_zM (d + 1) (some .boolean) (some (.int p.1), p.2)) 24 [some (.ref 67), some (.int x1), some (.int x2), some (.int x3), some (.int x4), none, none] [] σ) : ∀ (x1 : Int32) (x2 : Int32) (x4 : Int32) (x5 : Int32) (x6 : Int32) (σ : HS), f_X9_areAlike_79 rec x1 x2 x4 x5 x6 σ = some p → PW RX9 cX9_areAlike 7 (hs_zM (d + 1) (some .boolean) (some (.int p.1), p.2)) 79 [some (.ref 67), some (.int x1), some (.int x2), none, some (.int x4), some (.int x5), some (.int x6)] [] σ := by
  intro x1 x2 x4 x5 x6 σ h
  rw [f_X9_areAlike_79] at h
  refine pw_iload eX9_areAlike_79 rfl ?_
  refine pw_iload eX9_areAlike_81 rfl ?_
  refine pw_icmp_ne (tgt := 90) eX9_areAlike_83 (by decide) (fun c => ?_) (fun c => ?_)
  · have h := hs_ie c h
    refine pw_iconst eX9_areAlike_90 ki_0 ?_
    refine pw_goto (pc' := 116) eX9_areAlike_91 (by decide) ?_
    refine pw_istore_n eX9_areAlike_116 rfl (by decide) rfl rfl ?_
    refine pw_iinc eX9_areAlike_117 (by decide) rfl ki_1 rfl rfl ?_
    refine pw_goto (pc' := 24) eX9_areAlike_120 (by decide) ?_
    exact pw_le (hrec x1 x2 0 (x4 + 1) σ h) ⟨rfl, rfl, rfl, rfl, rfl, trivial⟩
  · have h := hs_it c h
    refine pw_iconst eX9_areAlike_86 ki_1 ?_
    refine pw_goto (pc' := 116) eX9_areAlike_87 (by decide) ?_
    refine pw_istore_n eX9_areAlike_116 rfl (by decide) rfl rfl ?_
    refine pw_iinc eX9_areAlike_117 (by decide) rfl ki_1 rfl rfl ?_
    refine pw_goto (pc' := 24) eX9_areAlike_120 (by decide) ?_
    exact pw_le (hrec x1 x2 1 (x4 + 1) σ h) ⟨rfl, rfl, rfl, rfl, rfl, trivial⟩
def f_X9_areAlike_24 : Nat → Int32 → Int32 → Int32 → Int32 → HS → Option (Int32 × HS)
  | 0, _, _, _, _, _ => none
  | n + 1, x1, x2, x3, x4, σ =>
    (ldI (σ.1 68) 66 0).bind fun v3 =>
    if v3 < x4 then
      (bzI x3).bind fun z4 =>
      some (z4, σ)
    else
      if x3 = 0 then
        (bzI x3).bind fun z5 =>
        some (z5, σ)
      else
        (ldI (σ.1 73) 906 (((6 : Int32) * x1) + x4)).bind fun v6 =>
        (ldI (σ.1 73) 906 (((6 : Int32) * x2) + x4)).bind fun v7 =>
        if v6 = (-1) then
          f_X9_areAlike_79 (f_X9_areAlike_24 n) x1 x2 x4 v6 v7 σ
        else
          if v7 = (-1) then
            f_X9_areAlike_79 (f_X9_areAlike_24 n) x1 x2 x4 v6 v7 σ
          else
            (ldI (σ.1 74) 150 v6).bind fun v8 =>
            (ldI (σ.1 74) 150 v7).bind fun v9 =>
            if v8 = v9 then
              f_X9_areAlike_24 n x1 x2 1 (x4 + 1) σ
            else
              f_X9_areAlike_24 n x1 x2 0 (x4 + 1) σ
set_option maxRecDepth 20000 in
theorem w_X9_areAlike_24 {d : Nat} {p : Int32 × HS} : ∀ (n : Nat) (x1 : Int32) (x2 : Int32) (x3 : Int32) (x4 : Int32) (σ : HS), f_X9_areAlike_24 n x1 x2 x3 x4 σ = some p → PW RX9 cX9_areAlike 7 (hs_zM (d + 1) (some .boolean) (some (.int p.1), p.2)) 24 [some (.ref 67), some (.int x1), some (.int x2), some (.int x3), some (.int x4), none, none] [] σ := by
  intro n
  induction n with
  | zero =>
    intro x1 x2 x3 x4 σ h
    rw [f_X9_areAlike_24] at h
    cases h
  | succ n ih =>
    intro x1 x2 x3 x4 σ h
    rw [f_X9_areAlike_24] at h
    refine pw_iload eX9_areAlike_24 rfl ?_
    refine pw_aload_n eX9_areAlike_26 rfl ?_
    refine pw_getR (r := 68) eX9_areAlike_27 fl_X9_7 ob_67 rfl ?_
    refine pw_iconst eX9_areAlike_30 ki_0 ?_
    obtain ⟨v3, g, h⟩ := hs_bind h
    refine pw_iald' eX9_areAlike_31 ai_68 g ?_
    refine pw_icmp_gt (tgt := 123) eX9_areAlike_32 (by decide) (fun c => ?_) (fun c => ?_)
    · have h := hs_it c h
      refine pw_iload_n eX9_areAlike_123 rfl ?_
      obtain ⟨z4, g, h⟩ := hs_bind h
      exact pw_bret' eX9_areAlike_124 g h
    · have h := hs_ie c h
      refine pw_iload_n eX9_areAlike_35 rfl ?_
      refine pw_if_eq (tgt := 123) eX9_areAlike_36 (by decide) (fun c => ?_) (fun c => ?_)
      · have h := hs_it c h
        refine pw_iload_n eX9_areAlike_123 rfl ?_
        obtain ⟨z5, g, h⟩ := hs_bind h
        exact pw_bret' eX9_areAlike_124 g h
      · have h := hs_ie c h
        refine pw_aload_n eX9_areAlike_39 rfl ?_
        refine pw_getR (r := 73) eX9_areAlike_40 fl_X9_25 ob_67 rfl ?_
        refine pw_bipush eX9_areAlike_43 kb_6 ?_
        refine pw_iload_n eX9_areAlike_45 rfl ?_
        refine pw_imul eX9_areAlike_46 ?_
        refine pw_iload eX9_areAlike_47 rfl ?_
        refine pw_iadd eX9_areAlike_49 ?_
        obtain ⟨v6, g, h⟩ := hs_bind h
        refine pw_iald' eX9_areAlike_50 ai_73 g ?_
        refine pw_istore eX9_areAlike_51 (by decide) rfl rfl ?_
        refine pw_aload_n eX9_areAlike_53 rfl ?_
        refine pw_getR (r := 73) eX9_areAlike_54 fl_X9_25 ob_67 rfl ?_
        refine pw_bipush eX9_areAlike_57 kb_6 ?_
        refine pw_iload_n eX9_areAlike_59 rfl ?_
        refine pw_imul eX9_areAlike_60 ?_
        refine pw_iload eX9_areAlike_61 rfl ?_
        refine pw_iadd eX9_areAlike_63 ?_
        obtain ⟨v7, g, h⟩ := hs_bind h
        refine pw_iald' eX9_areAlike_64 ai_73 g ?_
        refine pw_istore eX9_areAlike_65 (by decide) rfl rfl ?_
        refine pw_iload eX9_areAlike_67 rfl ?_
        refine pw_iconst eX9_areAlike_69 ki_m1 ?_
        refine pw_icmp_eq (tgt := 79) eX9_areAlike_70 (by decide) (fun c => ?_) (fun c => ?_)
        · have h := hs_it c h
          exact pw_le (w_X9_areAlike_79 ih x1 x2 x4 v6 v7 σ h) ⟨rfl, rfl, rfl, rfl, rfl, rfl, trivial⟩
        · have h := hs_ie c h
          refine pw_iload eX9_areAlike_73 rfl ?_
          refine pw_iconst eX9_areAlike_75 ki_m1 ?_
          refine pw_icmp_ne (tgt := 94) eX9_areAlike_76 (by decide) (fun c => ?_) (fun c => ?_)
          · have h := hs_ie c h
            refine pw_aload_n eX9_areAlike_94 rfl ?_
            refine pw_getR (r := 74) eX9_areAlike_95 fl_X9_28 ob_67 rfl ?_
            refine pw_iload eX9_areAlike_98 rfl ?_
            obtain ⟨v8, g, h⟩ := hs_bind h
            refine pw_iald' eX9_areAlike_100 ai_74 g ?_
            refine pw_aload_n eX9_areAlike_101 rfl ?_
            refine pw_getR (r := 74) eX9_areAlike_102 fl_X9_28 ob_67 rfl ?_
            refine pw_iload eX9_areAlike_105 rfl ?_
            obtain ⟨v9, g, h⟩ := hs_bind h
            refine pw_iald' eX9_areAlike_107 ai_74 g ?_
            refine pw_icmp_ne (tgt := 115) eX9_areAlike_108 (by decide) (fun c => ?_) (fun c => ?_)
            · have h := hs_ie c h
              refine pw_iconst eX9_areAlike_115 ki_0 ?_
              refine pw_istore_n eX9_areAlike_116 rfl (by decide) rfl rfl ?_
              refine pw_iinc eX9_areAlike_117 (by decide) rfl ki_1 rfl rfl ?_
              refine pw_goto (pc' := 24) eX9_areAlike_120 (by decide) ?_
              exact pw_le (ih x1 x2 0 (x4 + 1) σ h) ⟨rfl, rfl, rfl, rfl, rfl, trivial⟩
            · have h := hs_it c h
              refine pw_iconst eX9_areAlike_111 ki_1 ?_
              refine pw_goto (pc' := 116) eX9_areAlike_112 (by decide) ?_
              refine pw_istore_n eX9_areAlike_116 rfl (by decide) rfl rfl ?_
              refine pw_iinc eX9_areAlike_117 (by decide) rfl ki_1 rfl rfl ?_
              refine pw_goto (pc' := 24) eX9_areAlike_120 (by decide) ?_
              exact pw_le (ih x1 x2 1 (x4 + 1) σ h) ⟨rfl, rfl, rfl, rfl, rfl, trivial⟩
          · have h := hs_it c h
            exact pw_le (w_X9_areAlike_79 ih x1 x2 x4 v6 v7 σ h) ⟨rfl, rfl, rfl, rfl, rfl, rfl, trivial⟩
def f_X9_areAlike (x1 : Int32) (x2 : Int32) (σ : HS) : Option (Int32 × HS) :=
  (ldI (σ.1 74) 150 x1).bind fun v1 =>
  (ldI (σ.1 74) 150 x2).bind fun v2 =>
  if v1 = v2 then
    f_X9_areAlike_24 FU x1 x2 1 0 σ
  else
    f_X9_areAlike_24 FU x1 x2 0 0 σ
set_option maxRecDepth 20000 in
theorem s_X9_areAlike {d : Nat} {x1 : Int32} {x2 : Int32} {σ : HS} {p : Int32 × HS} (h : f_X9_areAlike x1 x2 σ = some p) : hs_Spec (d + 1) yX9_areAlike cX9_areAlike 7 (some .boolean) [.ref 67, .int x1, .int x2] σ (some (.int p.1), p.2) := by
  refine hs_spec' (by decide +kernel) rfl (Nat.le_of_ble_eq_true rfl) ?_
  show PW RX9 cX9_areAlike 7 (hs_zM (d + 1) (some .boolean) (some (.int p.1), p.2)) 0 [some (.ref 67), some (.int x1), some (.int x2), none, none, none, none] [] σ
  rw [f_X9_areAlike] at h
  refine pw_aload_n eX9_areAlike_0 rfl ?_
  refine pw_getR (r := 74) eX9_areAlike_1 fl_X9_28 ob_67 rfl ?_
  refine pw_iload_n eX9_areAlike_4 rfl ?_
  obtain ⟨v1, g, h⟩ := hs_bind h
  refine pw_iald' eX9_areAlike_5 ai_74 g ?_
  refine pw_aload_n eX9_areAlike_6 rfl ?_
  refine pw_getR (r := 74) eX9_areAlike_7 fl_X9_28 ob_67 rfl ?_
  refine pw_iload_n eX9_areAlike_10 rfl ?_
  obtain ⟨v2, g, h⟩ := hs_bind h
  refine pw_iald' eX9_areAlike_11 ai_74 g ?_
  refine pw_icmp_ne (tgt := 19) eX9_areAlike_12 (by decide) (fun c => ?_) (fun c => ?_)
  · have h := hs_ie c h
    refine pw_iconst eX9_areAlike_19 ki_0 ?_
    refine pw_istore_n eX9_areAlike_20 rfl (by decide) rfl rfl ?_
    refine pw_iconst eX9_areAlike_21 ki_0 ?_
    refine pw_istore eX9_areAlike_22 (by decide) rfl rfl ?_
    exact w_X9_areAlike_24 FU x1 x2 0 0 σ h
  · have h := hs_it c h
    refine pw_iconst eX9_areAlike_15 ki_1 ?_
    refine pw_goto (pc' := 20) eX9_areAlike_16 (by decide) ?_
    refine pw_istore_n eX9_areAlike_20 rfl (by decide) rfl rfl ?_
    refine pw_iconst eX9_areAlike_21 ki_0 ?_
    refine pw_istore eX9_areAlike_22 (by decide) rfl rfl ?_
    exact w_X9_areAlike_24 FU x1 x2 1 0 σ h

def f_X9_findClasses_57 (k : Int32 → Int32 → Int32 → HS → Option (HS)) : Nat → Int32 → Int32 → Int32 → HS → Option (HS)
  | 0, _, _, _, _ => none
  | n + 1, x1, x2, x3, σ =>
    if x2 ≤ x3 then
      k x1 x2 x3 σ
    else
      (f_X9_areAlike x2 x3 σ).bind fun q1 =>
      if q1.1 = 0 then
        f_X9_findClasses_57 k n x1 x2 (x3 + 1) q1.2
      else
        k x1 x2 x3 q1.2
set_option maxRecDepth 20000 in
theorem w_X9_findClasses_57 {d : Nat} {p : HS} {k : Int32 → Int32 → Int32 → HS → Option (HS)} (hk : ∀ (x1 : Int32) (x2 : Int32) (x3 : Int32) (σ : HS), k x1 x2 x3 σ = some p → PW RX9 cX9_findClasses 4 (hs_zM (d + 2) none (none, p)) 77 [some (.ref 67), some (.int x1), some (.int x2), some (.int x3)] [] σ) : ∀ (n : Nat) (x1 : Int32) (x2 : Int32) (x3 : Int32) (σ : HS), f_X9_findClasses_57 k n x1 x2 x3 σ = some p → PW RX9 cX9_findClasses 4 (hs_zM (d + 2) none (none, p)) 57 [some (.ref 67), some (.int x1), some (.int x2), some (.int x3)] [] σ := by
  intro n
  induction n with
  | zero =>
    intro x1 x2 x3 σ h
    rw [f_X9_findClasses_57] at h
    cases h
  | succ n ih =>
    intro x1 x2 x3 σ h
    rw [f_X9_findClasses_57] at h
    refine pw_iload_n eX9_findClasses_57 rfl ?_
    refine pw_iload_n eX9_findClasses_58 rfl ?_
    refine pw_icmp_ge (tgt := 77) eX9_findClasses_59 (by decide) (fun c => ?_) (fun c => ?_)
    · have h := hs_it c h
      exact hk x1 x2 x3 σ h
    · have h := hs_ie c h
      refine pw_aload_n eX9_findClasses_62 rfl ?_
      refine pw_iload_n eX9_findClasses_63 rfl ?_
      refine pw_iload_n eX9_findClasses_64 rfl ?_
      obtain ⟨q1, g, h⟩ := hs_bind h
      refine pw_mV2i eX9_findClasses_65 mv_X9_140 ob_67 (s_X9_areAlike g) (Nat.le_of_ble_eq_true rfl) ?_
      refine pw_if_ne (tgt := 77) eX9_findClasses_68 (by decide) (fun c => ?_) (fun c => ?_)
      · have h := hs_ie c h
        exact hk x1 x2 x3 q1.2 h
      · have h := hs_it c h
        refine pw_iinc eX9_findClasses_71 (by decide) rfl ki_1 rfl rfl ?_
        refine pw_goto (pc' := 57) eX9_findClasses_74 (by decide) ?_
        exact ih x1 x2 (x3 + 1) q1.2 h
def f_X9_findClasses_97 (rec : Int32 → Int32 → HS → Option (HS)) (x1 : Int32) (x2 : Int32) (x3 : Int32) (t0 : Int32) (t1 : Int32) (σ : HS) : Option (HS) :=
  (stI σ 75 150 t1 t0).bind fun σ6 =>
  if x2 ≤ x3 then
    rec (x1 + 1) (x2 + 1) σ6
  else
    rec (x1 + 0) (x2 + 1) σ6
set_option maxRecDepth 20000 in
theorem w_X9_findClasses_97 {d : Nat} {p : HS} {rec : Int32 → Int32 → HS → Option (HS)} (hrec : ∀ (x1 : Int32) (x2 : Int32) (σ : HS), rec x1 x2 σ = some p → PW RX9 cX9_findClasses 4 (hs_zM (d + 2) none (none, p)) 47 [some (.ref 67), some (.int x1), some (.int x2), none] [] σ) : ∀ (x1 : Int32) (x2 : Int32) (x3 : Int32) (t0 : Int32) (t1 : Int32) (σ : HS), f_X9_findClasses_97 rec x1 x2 x3 t0 t1 σ = some p → PW RX9 cX9_findClasses 4 (hs_zM (d + 2) none (none, p)) 97 [some (.ref 67), some (.int x1), some (.int x2), some (.int x3)] [.int t0, .int t1, .ref 75] σ := by
  intro x1 x2 x3 t0 t1 σ h
  rw [f_X9_findClasses_97] at h
  obtain ⟨σ6, g, h⟩ := hs_bind h
  refine pw_iast' eX9_findClasses_97 ai_75 g ?_
  refine pw_iload_n eX9_findClasses_98 rfl ?_
  refine pw_iload_n eX9_findClasses_99 rfl ?_
  refine pw_iload_n eX9_findClasses_100 rfl ?_
  refine pw_icmp_ge (tgt := 108) eX9_findClasses_101 (by decide) (fun c => ?_) (fun c => ?_)
  · have h := hs_it c h
    refine pw_iconst eX9_findClasses_108 ki_1 ?_
    refine pw_iadd eX9_findClasses_109 ?_
    refine pw_istore_n eX9_findClasses_110 rfl (by decide) rfl rfl ?_
    refine pw_iinc eX9_findClasses_111 (by decide) rfl ki_1 rfl rfl ?_
    refine pw_goto (pc' := 47) eX9_findClasses_114 (by decide) ?_
    exact pw_le (hrec (x1 + 1) (x2 + 1) σ6 h) ⟨rfl, rfl, rfl, trivial⟩
  · have h := hs_ie c h
    refine pw_iconst eX9_findClasses_104 ki_0 ?_
    refine pw_goto (pc' := 109) eX9_findClasses_105 (by decide) ?_
    refine pw_iadd eX9_findClasses_109 ?_
    refine pw_istore_n eX9_findClasses_110 rfl (by decide) rfl rfl ?_
    refine pw_iinc eX9_findClasses_111 (by decide) rfl ki_1 rfl rfl ?_
    refine pw_goto (pc' := 47) eX9_findClasses_114 (by decide) ?_
    exact pw_le (hrec (x1 + 0) (x2 + 1) σ6 h) ⟨rfl, rfl, rfl, trivial⟩
def f_X9_findClasses_77 (rec : Int32 → Int32 → HS → Option (HS)) (x1 : Int32) (x2 : Int32) (x3 : Int32) (σ : HS) : Option (HS) :=
  if x2 ≤ x3 then
    f_X9_findClasses_97 rec x1 x2 x3 x1 x2 σ
  else
    (ldI (σ.1 75) 150 x3).bind fun v7 =>
    f_X9_findClasses_97 rec x1 x2 x3 v7 x2 σ
set_option maxRecDepth 20000 in
theorem w_X9_findClasses_77 {d : Nat} {p : HS} {rec : Int32 → Int32 → HS → Option (HS)} (hrec : ∀ (x1 : Int32) (x2 : Int32) (σ : HS), rec x1 x2 σ = some p → PW RX9 cX9_findClasses 4 (hs_zM (d + 2) none (none, p)) 47 [some (.ref 67), some (.int x1), some (.int x2), none] [] σ) : ∀ (x1 : Int32) (x2 : Int32) (x3 : Int32) (σ : HS), f_X9_findClasses_77 rec x1 x2 x3 σ = some p → PW RX9 cX9_findClasses 4 (hs_zM (d + 2) none (none, p)) 77 [some (.ref 67), some (.int x1), some (.int x2), some (.int x3)] [] σ := by
  intro x1 x2 x3 σ h
  rw [f_X9_findClasses_77] at h
  refine pw_aload_n eX9_findClasses_77 rfl ?_
  refine pw_getR (r := 75) eX9_findClasses_78 fl_X9_31 ob_67 rfl ?_
  refine pw_iload_n eX9_findClasses_81 rfl ?_
  refine pw_iload_n eX9_findClasses_82 rfl ?_
  refine pw_iload_n eX9_findClasses_83 rfl ?_
  refine pw_icmp_ge (tgt := 96) eX9_findClasses_84 (by decide) (fun c => ?_) (fun c => ?_)
  · have h := hs_it c h
    refine pw_iload_n eX9_findClasses_96 rfl ?_
    exact w_X9_findClasses_97 hrec x1 x2 x3 x1 x2 σ h
  · have h := hs_ie c h
    refine pw_aload_n eX9_findClasses_87 rfl ?_
    refine pw_getR (r := 75) eX9_findClasses_88 fl_X9_31 ob_67 rfl ?_
    refine pw_iload_n eX9_findClasses_91 rfl ?_
    obtain ⟨v7, g, h⟩ := hs_bind h
    refine pw_iald' eX9_findClasses_92 ai_75 g ?_
    refine pw_goto (pc' := 97) eX9_findClasses_93 (by decide) ?_
    exact w_X9_findClasses_97 hrec x1 x2 x3 v7 x2 σ h
def f_X9_findClasses_47 (k : Int32 → HS → Option (HS)) : Nat → Int32 → Int32 → HS → Option (HS)
  | 0, _, _, _ => none
  | n + 1, x1, x2, σ =>
    if (σ.1 67 6) ≤ x2 then
      k x1 σ
    else
      f_X9_findClasses_57 (fun e2 e3 e4 σ5 =>
        f_X9_findClasses_77 (f_X9_findClasses_47 k n) e2 e3 e4 σ5) FU x1 x2 0 σ
set_option maxRecDepth 20000 in
theorem w_X9_findClasses_47 {d : Nat} {p : HS} {k : Int32 → HS → Option (HS)} (hk : ∀ (x1 : Int32) (σ : HS), k x1 σ = some p → PW RX9 cX9_findClasses 4 (hs_zM (d + 2) none (none, p)) 117 [some (.ref 67), some (.int x1), none, none] [] σ) : ∀ (n : Nat) (x1 : Int32) (x2 : Int32) (σ : HS), f_X9_findClasses_47 k n x1 x2 σ = some p → PW RX9 cX9_findClasses 4 (hs_zM (d + 2) none (none, p)) 47 [some (.ref 67), some (.int x1), some (.int x2), none] [] σ := by
  intro n
  induction n with
  | zero =>
    intro x1 x2 σ h
    rw [f_X9_findClasses_47] at h
    cases h
  | succ n ih =>
    intro x1 x2 σ h
    rw [f_X9_findClasses_47] at h
    refine pw_iload_n eX9_findClasses_47 rfl ?_
    refine pw_aload_n eX9_findClasses_48 rfl ?_
    refine pw_getI eX9_findClasses_49 fl_X9_128 ob_67 rfl ?_
    refine pw_icmp_ge (tgt := 117) eX9_findClasses_52 (by decide) (fun c => ?_) (fun c => ?_)
    · have h := hs_it c h
      exact pw_le (hk x1 σ h) ⟨rfl, rfl, trivial⟩
    · have h := hs_ie c h
      refine pw_iconst eX9_findClasses_55 ki_0 ?_
      refine pw_istore_n eX9_findClasses_56 rfl (by decide) rfl rfl ?_
      refine w_X9_findClasses_57 (fun e2 e3 e4 σ5 h => ?_) FU x1 x2 0 σ h
      exact w_X9_findClasses_77 ih e2 e3 e4 σ5 h
def f_X9_findClasses_119 (k : Int32 → HS → Option (HS)) : Nat → Int32 → Int32 → HS → Option (HS)
  | 0, _, _, _ => none
  | n + 1, x1, x2, σ =>
    if (σ.1 67 6) ≤ x2 then
      k x1 σ
    else
      (ldI (σ.1 75) 150 x2).bind fun v10 =>
      (stI σ 74 150 x2 v10).bind fun σ11 =>
      f_X9_findClasses_119 k n x1 (x2 + 1) σ11
set_option maxRecDepth 20000 in
theorem w_X9_findClasses_119 {d : Nat} {p : HS} {k : Int32 → HS → Option (HS)} (hk : ∀ (x1 : Int32) (σ : HS), k x1 σ = some p → PW RX9 cX9_findClasses 4 (hs_zM (d + 2) none (none, p)) 145 [some (.ref 67), some (.int x1), none, none] [] σ) : ∀ (n : Nat) (x1 : Int32) (x2 : Int32) (σ : HS), f_X9_findClasses_119 k n x1 x2 σ = some p → PW RX9 cX9_findClasses 4 (hs_zM (d + 2) none (none, p)) 119 [some (.ref 67), some (.int x1), some (.int x2), none] [] σ := by
  intro n
  induction n with
  | zero =>
    intro x1 x2 σ h
    rw [f_X9_findClasses_119] at h
    cases h
  | succ n ih =>
    intro x1 x2 σ h
    rw [f_X9_findClasses_119] at h
    refine pw_iload_n eX9_findClasses_119 rfl ?_
    refine pw_aload_n eX9_findClasses_120 rfl ?_
    refine pw_getI eX9_findClasses_121 fl_X9_128 ob_67 rfl ?_
    refine pw_icmp_ge (tgt := 145) eX9_findClasses_124 (by decide) (fun c => ?_) (fun c => ?_)
    · have h := hs_it c h
      exact pw_le (hk x1 σ h) ⟨rfl, rfl, trivial⟩
    · have h := hs_ie c h
      refine pw_aload_n eX9_findClasses_127 rfl ?_
      refine pw_getR (r := 74) eX9_findClasses_128 fl_X9_28 ob_67 rfl ?_
      refine pw_iload_n eX9_findClasses_131 rfl ?_
      refine pw_aload_n eX9_findClasses_132 rfl ?_
      refine pw_getR (r := 75) eX9_findClasses_133 fl_X9_31 ob_67 rfl ?_
      refine pw_iload_n eX9_findClasses_136 rfl ?_
      obtain ⟨v10, g, h⟩ := hs_bind h
      refine pw_iald' eX9_findClasses_137 ai_75 g ?_
      obtain ⟨σ11, g, h⟩ := hs_bind h
      refine pw_iast' eX9_findClasses_138 ai_74 g ?_
      refine pw_iinc eX9_findClasses_139 (by decide) rfl ki_1 rfl rfl ?_
      refine pw_goto (pc' := 119) eX9_findClasses_142 (by decide) ?_
      exact ih x1 (x2 + 1) σ11 h
def f_X9_findClasses_30 : Nat → Int32 → HS → Option (HS)
  | 0, _, _ => none
  | n + 1, x1, σ =>
    if x1 ≤ (σ.1 67 9) then
      some σ
    else
      f_X9_findClasses_47 (fun e8 σ9 =>
        f_X9_findClasses_119 (fun e12 σ13 =>
        f_X9_findClasses_30 n e12 σ13) FU e8 0 σ9) FU 0 0 (sI σ 67 9 x1)
set_option maxRecDepth 20000 in
theorem w_X9_findClasses_30 {d : Nat} {p : HS} : ∀ (n : Nat) (x1 : Int32) (σ : HS), f_X9_findClasses_30 n x1 σ = some p → PW RX9 cX9_findClasses 4 (hs_zM (d + 2) none (none, p)) 30 [some (.ref 67), some (.int x1), none, none] [] σ := by
  intro n
  induction n with
  | zero =>
    intro x1 σ h
    rw [f_X9_findClasses_30] at h
    cases h
  | succ n ih =>
    intro x1 σ h
    rw [f_X9_findClasses_30] at h
    refine pw_iload_n eX9_findClasses_30 rfl ?_
    refine pw_aload_n eX9_findClasses_31 rfl ?_
    refine pw_getI eX9_findClasses_32 fl_X9_137 ob_67 rfl ?_
    refine pw_icmp_le (tgt := 148) eX9_findClasses_35 (by decide) (fun c => ?_) (fun c => ?_)
    · have h := hs_it c h
      exact pw_vret' eX9_findClasses_148 h
    · have h := hs_ie c h
      refine pw_aload_n eX9_findClasses_38 rfl ?_
      refine pw_iload_n eX9_findClasses_39 rfl ?_
      refine pw_putI eX9_findClasses_40 fw_X9_137 ob_67 rfl ?_
      refine pw_iconst eX9_findClasses_43 ki_0 ?_
      refine pw_istore_n eX9_findClasses_44 rfl (by decide) rfl rfl ?_
      refine pw_iconst eX9_findClasses_45 ki_0 ?_
      refine pw_istore_n eX9_findClasses_46 rfl (by decide) rfl rfl ?_
      refine w_X9_findClasses_47 (fun e8 σ9 h => ?_) FU 0 0 (sI σ 67 9 x1) h
      refine pw_iconst eX9_findClasses_117 ki_0 ?_
      refine pw_istore_n eX9_findClasses_118 rfl (by decide) rfl rfl ?_
      refine w_X9_findClasses_119 (fun e12 σ13 h => ?_) FU e8 0 σ9 h
      refine pw_goto (pc' := 30) eX9_findClasses_145 (by decide) ?_
      exact ih e12 σ13 h
def f_X9_findClasses_7 : Nat → Int32 → HS → Option (HS)
  | 0, _, _ => none
  | n + 1, x1, σ =>
    if (σ.1 67 6) ≤ x1 then
      f_X9_findClasses_30 FU 1 σ
    else
      (stI σ 74 150 x1 0).bind fun σ14 =>
      f_X9_findClasses_7 n (x1 + 1) σ14
set_option maxRecDepth 20000 in
theorem w_X9_findClasses_7 {d : Nat} {p : HS} : ∀ (n : Nat) (x1 : Int32) (σ : HS), f_X9_findClasses_7 n x1 σ = some p → PW RX9 cX9_findClasses 4 (hs_zM (d + 2) none (none, p)) 7 [some (.ref 67), some (.int x1), none, none] [] σ := by
  intro n
  induction n with
  | zero =>
    intro x1 σ h
    rw [f_X9_findClasses_7] at h
    cases h
  | succ n ih =>
    intro x1 σ h
    rw [f_X9_findClasses_7] at h
    refine pw_iload_n eX9_findClasses_7 rfl ?_
    refine pw_aload_n eX9_findClasses_8 rfl ?_
    refine pw_getI eX9_findClasses_9 fl_X9_128 ob_67 rfl ?_
    refine pw_icmp_ge (tgt := 28) eX9_findClasses_12 (by decide) (fun c => ?_) (fun c => ?_)
    · have h := hs_it c h
      refine pw_iconst eX9_findClasses_28 ki_1 ?_
      refine pw_istore_n eX9_findClasses_29 rfl (by decide) rfl rfl ?_
      exact w_X9_findClasses_30 FU 1 σ h
    · have h := hs_ie c h
      refine pw_aload_n eX9_findClasses_15 rfl ?_
      refine pw_getR (r := 74) eX9_findClasses_16 fl_X9_28 ob_67 rfl ?_
      refine pw_iload_n eX9_findClasses_19 rfl ?_
      refine pw_iconst eX9_findClasses_20 ki_0 ?_
      obtain ⟨σ14, g, h⟩ := hs_bind h
      refine pw_iast' eX9_findClasses_21 ai_74 g ?_
      refine pw_iinc eX9_findClasses_22 (by decide) rfl ki_1 rfl rfl ?_
      refine pw_goto (pc' := 7) eX9_findClasses_25 (by decide) ?_
      exact ih (x1 + 1) σ14 h
def f_X9_findClasses (σ : HS) : Option (HS) :=
  f_X9_findClasses_7 FU 0 (sI σ 67 9 0)
set_option maxRecDepth 20000 in
theorem s_X9_findClasses {d : Nat} {σ : HS} {p : HS} (h : f_X9_findClasses σ = some p) : hs_Spec (d + 2) yX9_findClasses cX9_findClasses 4 none [.ref 67] σ (none, p) := by
  refine hs_spec' (by decide +kernel) rfl (Nat.le_of_ble_eq_true rfl) ?_
  show PW RX9 cX9_findClasses 4 (hs_zM (d + 2) none (none, p)) 0 [some (.ref 67), none, none, none] [] σ
  rw [f_X9_findClasses] at h
  refine pw_aload_n eX9_findClasses_0 rfl ?_
  refine pw_iconst eX9_findClasses_1 ki_0 ?_
  refine pw_putI eX9_findClasses_2 fw_X9_137 ob_67 rfl ?_
  refine pw_iconst eX9_findClasses_5 ki_0 ?_
  refine pw_istore_n eX9_findClasses_6 rfl (by decide) rfl rfl ?_
  exact w_X9_findClasses_7 FU 0 (sI σ 67 9 0) h

def f_X9_isMuch_30 (σ : HS) : Option (Int32 × HS) :=
  if (σ.1 67 6) ≤ 150 then
    some (0, σ)
  else
    some (1, σ)
set_option maxRecDepth 20000 in
theorem w_X9_isMuch_30 {d : Nat} {p : Int32 × HS} : ∀ (σ : HS), f_X9_isMuch_30 σ = some p → PW RX9 cX9_isMuch 1 (hs_zM (d + 5) (some .boolean) (some (.int p.1), p.2)) 30 [some (.ref 67)] [] σ := by
  intro σ h
  rw [f_X9_isMuch_30] at h
  refine pw_aload_n eX9_isMuch_30 rfl ?_
  refine pw_getI eX9_isMuch_31 fl_X9_128 ob_67 rfl ?_
  refine pw_sipush eX9_isMuch_34 ks_150 ?_
  refine pw_icmp_le (tgt := 44) eX9_isMuch_37 (by decide) (fun c => ?_) (fun c => ?_)
  · have h := hs_it c h
    refine pw_iconst eX9_isMuch_44 ki_0 ?_
    exact pw_zret' eX9_isMuch_45 narrow_b0 h
  · have h := hs_ie c h
    refine pw_iconst eX9_isMuch_40 ki_1 ?_
    refine pw_goto (pc' := 45) eX9_isMuch_41 (by decide) ?_
    exact pw_zret' eX9_isMuch_45 narrow_b1 h
def f_X9_isMuch (σ : HS) : Option (Int32 × HS) :=
  if (σ.1 67 5) = 0 then
    (f_X9_findStates (sI σ 67 5 1)).bind fun σ1 =>
    if (150 : Int32) < (σ1.1 67 6) then
      f_X9_isMuch_30 σ1
    else
      (f_X9_findClasses σ1).bind fun σ2 =>
      f_X9_isMuch_30 σ2
  else
    f_X9_isMuch_30 σ
set_option maxRecDepth 20000 in
theorem s_X9_isMuch {d : Nat} {σ : HS} {p : Int32 × HS} (h : f_X9_isMuch σ = some p) : hs_Spec (d + 5) yX9_isMuch cX9_isMuch 1 (some .boolean) [.ref 67] σ (some (.int p.1), p.2) := by
  refine hs_spec' (by decide +kernel) rfl (Nat.le_of_ble_eq_true rfl) ?_
  show PW RX9 cX9_isMuch 1 (hs_zM (d + 5) (some .boolean) (some (.int p.1), p.2)) 0 [some (.ref 67)] [] σ
  rw [f_X9_isMuch] at h
  refine pw_aload_n eX9_isMuch_0 rfl ?_
  refine pw_getI eX9_isMuch_1 fl_X9_70 ob_67 rfl ?_
  refine pw_if_ne (tgt := 30) eX9_isMuch_4 (by decide) (fun c => ?_) (fun c => ?_)
  · have h := hs_ie c h
    exact w_X9_isMuch_30 σ h
  · have h := hs_it c h
    refine pw_aload_n eX9_isMuch_7 rfl ?_
    refine pw_iconst eX9_isMuch_8 ki_1 ?_
    refine pw_putZ eX9_isMuch_9 fw_X9_70 ob_67 rfl narrow_b1 rfl ?_
    refine pw_aload_n eX9_isMuch_12 rfl ?_
    obtain ⟨σ1, g, h⟩ := hs_bind h
    refine pw_mV0v eX9_isMuch_13 mv_X9_143 ob_67 (s_X9_findStates g) (Nat.le_of_ble_eq_true rfl) ?_
    refine pw_aload_n eX9_isMuch_16 rfl ?_
    refine pw_getI eX9_isMuch_17 fl_X9_128 ob_67 rfl ?_
    refine pw_sipush eX9_isMuch_20 ks_150 ?_
    refine pw_icmp_gt (tgt := 30) eX9_isMuch_23 (by decide) (fun c => ?_) (fun c => ?_)
    · have h := hs_it c h
      exact w_X9_isMuch_30 σ1 h
    · have h := hs_ie c h
      refine pw_aload_n eX9_isMuch_26 rfl ?_
      obtain ⟨σ2, g, h⟩ := hs_bind h
      refine pw_mV0v eX9_isMuch_27 mv_X9_146 ob_67 (s_X9_findClasses g) (Nat.le_of_ble_eq_true rfl) ?_
      exact w_X9_isMuch_30 σ2 h

def f_X9_states (σ : HS) : Option (Int32 × HS) :=
  (f_X9_isMuch σ).bind fun q1 =>
  if q1.1 = 0 then
    some ((q1.2.1 67 6), q1.2)
  else
    (f_X9_refuses (-5) q1.2).bind fun q2 =>
    some (q2.1, q2.2)
set_option maxRecDepth 20000 in
theorem s_X9_states {d : Nat} {σ : HS} {p : Int32 × HS} (h : f_X9_states σ = some p) : hs_Spec (d + 6) yX9_states cX9_states 1 (some .int) [.ref 67] σ (some (.int p.1), p.2) := by
  refine hs_spec' (by decide +kernel) rfl (Nat.le_of_ble_eq_true rfl) ?_
  show PW RX9 cX9_states 1 (hs_zM (d + 6) (some .int) (some (.int p.1), p.2)) 0 [some (.ref 67)] [] σ
  rw [f_X9_states] at h
  refine pw_aload_n eX9_states_0 rfl ?_
  obtain ⟨q1, g, h⟩ := hs_bind h
  refine pw_mV0i eX9_states_1 mv_X9_149 ob_67 (s_X9_isMuch g) (Nat.le_of_ble_eq_true rfl) ?_
  refine pw_if_eq (tgt := 16) eX9_states_4 (by decide) (fun c => ?_) (fun c => ?_)
  · have h := hs_it c h
    refine pw_aload_n eX9_states_16 rfl ?_
    refine pw_getI eX9_states_17 fl_X9_128 ob_67 rfl ?_
    exact pw_iret' eX9_states_20 h
  · have h := hs_ie c h
    refine pw_aload_n eX9_states_7 rfl ?_
    refine pw_bipush eX9_states_8 kb_m5 ?_
    obtain ⟨q2, g, h⟩ := hs_bind h
    refine pw_mV1i eX9_states_10 mv_X9_63 ob_67 (s_X9_refuses g) (Nat.le_of_ble_eq_true rfl) ?_
    refine pw_goto (pc' := 20) eX9_states_13 (by decide) ?_
    exact pw_iret' eX9_states_20 h

def f_X9_state (x1 : Int32) (x2 : Int32) (σ : HS) : Option (Int32 × HS) :=
  if x1 < 0 then
    (f_X9_refuses (-2) σ).bind fun q1 =>
    some (q1.1, q1.2)
  else
    (ldI (σ.1 68) 66 0).bind fun v2 =>
    (f_X9_in x2 0 ((3 : Int32) + v2) σ).bind fun q3 =>
    if q3.1 = 0 then
      (f_X9_refuses (-2) q3.2).bind fun q9 =>
      some (q9.1, q9.2)
    else
      (f_X9_isMuch q3.2).bind fun q4 =>
      if q4.1 = 0 then
        if x1 < (q4.2.1 67 6) then
          if (3 : Int32) ≤ x2 then
            (ldI (q4.2.1 73) 906 ((((6 : Int32) * x1) + x2) - 3)).bind fun v5 =>
            some (v5, q4.2)
          else
            (ldI (q4.2.1 72) 151 x1).bind fun v6 =>
            some (((v6 >>> (((4 : Int32) * x2) &&& 31)) &&& 15), q4.2)
        else
          (f_X9_refuses (-2) q4.2).bind fun q7 =>
          some (q7.1, q7.2)
      else
        (f_X9_refuses (-5) q4.2).bind fun q8 =>
        some (q8.1, q8.2)
set_option maxRecDepth 20000 in
theorem s_X9_state {d : Nat} {x1 : Int32} {x2 : Int32} {σ : HS} {p : Int32 × HS} (h : f_X9_state x1 x2 σ = some p) : hs_Spec (d + 6) yX9_state cX9_state 3 (some .int) [.ref 67, .int x1, .int x2] σ (some (.int p.1), p.2) := by
  refine hs_spec' (by decide +kernel) rfl (Nat.le_of_ble_eq_true rfl) ?_
  show PW RX9 cX9_state 3 (hs_zM (d + 6) (some .int) (some (.int p.1), p.2)) 0 [some (.ref 67), some (.int x1), some (.int x2)] [] σ
  rw [f_X9_state] at h
  refine pw_iload_n eX9_state_0 rfl ?_
  refine pw_if_lt (tgt := 20) eX9_state_1 (by decide) (fun c => ?_) (fun c => ?_)
  · have h := hs_it c h
    refine pw_aload_n eX9_state_20 rfl ?_
    refine pw_bipush eX9_state_21 kb_m2 ?_
    obtain ⟨q1, g, h⟩ := hs_bind h
    refine pw_mV1i eX9_state_23 mv_X9_63 ob_67 (s_X9_refuses g) (Nat.le_of_ble_eq_true rfl) ?_
    exact pw_iret' eX9_state_26 h
  · have h := hs_ie c h
    refine pw_iload_n eX9_state_4 rfl ?_
    refine pw_iconst eX9_state_5 ki_0 ?_
    refine pw_iconst eX9_state_6 ki_3 ?_
    refine pw_aload_n eX9_state_7 rfl ?_
    refine pw_getR (r := 68) eX9_state_8 fl_X9_7 ob_67 rfl ?_
    refine pw_iconst eX9_state_11 ki_0 ?_
    obtain ⟨v2, g, h⟩ := hs_bind h
    refine pw_iald' eX9_state_12 ai_68 g ?_
    refine pw_iadd eX9_state_13 ?_
    obtain ⟨q3, g, h⟩ := hs_bind h
    refine pw_mS3i eX9_state_14 ms_X9_74 (s_X9_in g) (Nat.le_of_ble_eq_true rfl) ?_
    refine pw_if_ne (tgt := 27) eX9_state_17 (by decide) (fun c => ?_) (fun c => ?_)
    · have h := hs_ie c h
      refine pw_aload_n eX9_state_27 rfl ?_
      obtain ⟨q4, g, h⟩ := hs_bind h
      refine pw_mV0i eX9_state_28 mv_X9_149 ob_67 (s_X9_isMuch g) (Nat.le_of_ble_eq_true rfl) ?_
      refine pw_if_eq (tgt := 41) eX9_state_31 (by decide) (fun c => ?_) (fun c => ?_)
      · have h := hs_it c h
        refine pw_iload_n eX9_state_41 rfl ?_
        refine pw_aload_n eX9_state_42 rfl ?_
        refine pw_getI eX9_state_43 fl_X9_128 ob_67 rfl ?_
        refine pw_icmp_lt (tgt := 56) eX9_state_46 (by decide) (fun c => ?_) (fun c => ?_)
        · have h := hs_it c h
          refine pw_iload_n eX9_state_56 rfl ?_
          refine pw_iconst eX9_state_57 ki_3 ?_
          refine pw_icmp_ge (tgt := 77) eX9_state_58 (by decide) (fun c => ?_) (fun c => ?_)
          · have h := hs_it c h
            refine pw_aload_n eX9_state_77 rfl ?_
            refine pw_getR (r := 73) eX9_state_78 fl_X9_25 ob_67 rfl ?_
            refine pw_bipush eX9_state_81 kb_6 ?_
            refine pw_iload_n eX9_state_83 rfl ?_
            refine pw_imul eX9_state_84 ?_
            refine pw_iload_n eX9_state_85 rfl ?_
            refine pw_iadd eX9_state_86 ?_
            refine pw_iconst eX9_state_87 ki_3 ?_
            refine pw_isub eX9_state_88 ?_
            obtain ⟨v5, g, h⟩ := hs_bind h
            refine pw_iald' eX9_state_89 ai_73 g ?_
            exact pw_iret' eX9_state_90 h
          · have h := hs_ie c h
            refine pw_aload_n eX9_state_61 rfl ?_
            refine pw_getR (r := 72) eX9_state_62 fl_X9_22 ob_67 rfl ?_
            refine pw_iload_n eX9_state_65 rfl ?_
            obtain ⟨v6, g, h⟩ := hs_bind h
            refine pw_iald' eX9_state_66 ai_72 g ?_
            refine pw_iconst eX9_state_67 ki_4 ?_
            refine pw_iload_n eX9_state_68 rfl ?_
            refine pw_imul eX9_state_69 ?_
            refine pw_ishr eX9_state_70 ?_
            refine pw_bipush eX9_state_71 kb_15 ?_
            refine pw_iand eX9_state_73 ?_
            refine pw_goto (pc' := 90) eX9_state_74 (by decide) ?_
            exact pw_iret' eX9_state_90 h
        · have h := hs_ie c h
          refine pw_aload_n eX9_state_49 rfl ?_
          refine pw_bipush eX9_state_50 kb_m2 ?_
          obtain ⟨q7, g, h⟩ := hs_bind h
          refine pw_mV1i eX9_state_52 mv_X9_63 ob_67 (s_X9_refuses g) (Nat.le_of_ble_eq_true rfl) ?_
          exact pw_iret' eX9_state_55 h
      · have h := hs_ie c h
        refine pw_aload_n eX9_state_34 rfl ?_
        refine pw_bipush eX9_state_35 kb_m5 ?_
        obtain ⟨q8, g, h⟩ := hs_bind h
        refine pw_mV1i eX9_state_37 mv_X9_63 ob_67 (s_X9_refuses g) (Nat.le_of_ble_eq_true rfl) ?_
        exact pw_iret' eX9_state_40 h
    · have h := hs_it c h
      refine pw_aload_n eX9_state_20 rfl ?_
      refine pw_bipush eX9_state_21 kb_m2 ?_
      obtain ⟨q9, g, h⟩ := hs_bind h
      refine pw_mV1i eX9_state_23 mv_X9_63 ob_67 (s_X9_refuses g) (Nat.le_of_ble_eq_true rfl) ?_
      exact pw_iret' eX9_state_26 h

def f_X9_classes (σ : HS) : Option (Int32 × HS) :=
  (f_X9_isMuch σ).bind fun q1 =>
  if q1.1 = 0 then
    some ((q1.2.1 67 9), q1.2)
  else
    (f_X9_refuses (-5) q1.2).bind fun q2 =>
    some (q2.1, q2.2)
set_option maxRecDepth 20000 in
theorem s_X9_classes {d : Nat} {σ : HS} {p : Int32 × HS} (h : f_X9_classes σ = some p) : hs_Spec (d + 6) yX9_classes cX9_classes 1 (some .int) [.ref 67] σ (some (.int p.1), p.2) := by
  refine hs_spec' (by decide +kernel) rfl (Nat.le_of_ble_eq_true rfl) ?_
  show PW RX9 cX9_classes 1 (hs_zM (d + 6) (some .int) (some (.int p.1), p.2)) 0 [some (.ref 67)] [] σ
  rw [f_X9_classes] at h
  refine pw_aload_n eX9_classes_0 rfl ?_
  obtain ⟨q1, g, h⟩ := hs_bind h
  refine pw_mV0i eX9_classes_1 mv_X9_149 ob_67 (s_X9_isMuch g) (Nat.le_of_ble_eq_true rfl) ?_
  refine pw_if_eq (tgt := 16) eX9_classes_4 (by decide) (fun c => ?_) (fun c => ?_)
  · have h := hs_it c h
    refine pw_aload_n eX9_classes_16 rfl ?_
    refine pw_getI eX9_classes_17 fl_X9_137 ob_67 rfl ?_
    exact pw_iret' eX9_classes_20 h
  · have h := hs_ie c h
    refine pw_aload_n eX9_classes_7 rfl ?_
    refine pw_bipush eX9_classes_8 kb_m5 ?_
    obtain ⟨q2, g, h⟩ := hs_bind h
    refine pw_mV1i eX9_classes_10 mv_X9_63 ob_67 (s_X9_refuses g) (Nat.le_of_ble_eq_true rfl) ?_
    refine pw_goto (pc' := 20) eX9_classes_13 (by decide) ?_
    exact pw_iret' eX9_classes_20 h

def f_X9_alike (x1 : Int32) (x2 : Int32) (σ : HS) : Option (Int32 × HS) :=
  if x1 < 0 then
    (f_X9_refuses (-2) σ).bind fun q1 =>
    some (q1.1, q1.2)
  else
    if (0 : Int32) ≤ x2 then
      (f_X9_isMuch σ).bind fun q2 =>
      if q2.1 = 0 then
        if (q2.2.1 67 6) ≤ x1 then
          (f_X9_refuses (-2) q2.2).bind fun q3 =>
          some (q3.1, q3.2)
        else
          if x2 < (q2.2.1 67 6) then
            (ldI (q2.2.1 74) 150 x1).bind fun v4 =>
            (ldI (q2.2.1 74) 150 x2).bind fun v5 =>
            if v4 = v5 then
              some (1, q2.2)
            else
              some (0, q2.2)
          else
            (f_X9_refuses (-2) q2.2).bind fun q6 =>
            some (q6.1, q6.2)
      else
        (f_X9_refuses (-5) q2.2).bind fun q7 =>
        some (q7.1, q7.2)
    else
      (f_X9_refuses (-2) σ).bind fun q8 =>
      some (q8.1, q8.2)
set_option maxRecDepth 20000 in
theorem s_X9_alike {d : Nat} {x1 : Int32} {x2 : Int32} {σ : HS} {p : Int32 × HS} (h : f_X9_alike x1 x2 σ = some p) : hs_Spec (d + 6) yX9_alike cX9_alike 3 (some .int) [.ref 67, .int x1, .int x2] σ (some (.int p.1), p.2) := by
  refine hs_spec' (by decide +kernel) rfl (Nat.le_of_ble_eq_true rfl) ?_
  show PW RX9 cX9_alike 3 (hs_zM (d + 6) (some .int) (some (.int p.1), p.2)) 0 [some (.ref 67), some (.int x1), some (.int x2)] [] σ
  rw [f_X9_alike] at h
  refine pw_iload_n eX9_alike_0 rfl ?_
  refine pw_if_lt (tgt := 8) eX9_alike_1 (by decide) (fun c => ?_) (fun c => ?_)
  · have h := hs_it c h
    refine pw_aload_n eX9_alike_8 rfl ?_
    refine pw_bipush eX9_alike_9 kb_m2 ?_
    obtain ⟨q1, g, h⟩ := hs_bind h
    refine pw_mV1i eX9_alike_11 mv_X9_63 ob_67 (s_X9_refuses g) (Nat.le_of_ble_eq_true rfl) ?_
    exact pw_iret' eX9_alike_14 h
  · have h := hs_ie c h
    refine pw_iload_n eX9_alike_4 rfl ?_
    refine pw_if_ge (tgt := 15) eX9_alike_5 (by decide) (fun c => ?_) (fun c => ?_)
    · have h := hs_it c h
      refine pw_aload_n eX9_alike_15 rfl ?_
      obtain ⟨q2, g, h⟩ := hs_bind h
      refine pw_mV0i eX9_alike_16 mv_X9_149 ob_67 (s_X9_isMuch g) (Nat.le_of_ble_eq_true rfl) ?_
      refine pw_if_eq (tgt := 29) eX9_alike_19 (by decide) (fun c => ?_) (fun c => ?_)
      · have h := hs_it c h
        refine pw_iload_n eX9_alike_29 rfl ?_
        refine pw_aload_n eX9_alike_30 rfl ?_
        refine pw_getI eX9_alike_31 fl_X9_128 ob_67 rfl ?_
        refine pw_icmp_ge (tgt := 45) eX9_alike_34 (by decide) (fun c => ?_) (fun c => ?_)
        · have h := hs_it c h
          refine pw_aload_n eX9_alike_45 rfl ?_
          refine pw_bipush eX9_alike_46 kb_m2 ?_
          obtain ⟨q3, g, h⟩ := hs_bind h
          refine pw_mV1i eX9_alike_48 mv_X9_63 ob_67 (s_X9_refuses g) (Nat.le_of_ble_eq_true rfl) ?_
          exact pw_iret' eX9_alike_51 h
        · have h := hs_ie c h
          refine pw_iload_n eX9_alike_37 rfl ?_
          refine pw_aload_n eX9_alike_38 rfl ?_
          refine pw_getI eX9_alike_39 fl_X9_128 ob_67 rfl ?_
          refine pw_icmp_lt (tgt := 52) eX9_alike_42 (by decide) (fun c => ?_) (fun c => ?_)
          · have h := hs_it c h
            refine pw_aload_n eX9_alike_52 rfl ?_
            refine pw_getR (r := 74) eX9_alike_53 fl_X9_28 ob_67 rfl ?_
            refine pw_iload_n eX9_alike_56 rfl ?_
            obtain ⟨v4, g, h⟩ := hs_bind h
            refine pw_iald' eX9_alike_57 ai_74 g ?_
            refine pw_aload_n eX9_alike_58 rfl ?_
            refine pw_getR (r := 74) eX9_alike_59 fl_X9_28 ob_67 rfl ?_
            refine pw_iload_n eX9_alike_62 rfl ?_
            obtain ⟨v5, g, h⟩ := hs_bind h
            refine pw_iald' eX9_alike_63 ai_74 g ?_
            refine pw_icmp_ne (tgt := 71) eX9_alike_64 (by decide) (fun c => ?_) (fun c => ?_)
            · have h := hs_ie c h
              refine pw_iconst eX9_alike_71 ki_0 ?_
              exact pw_iret' eX9_alike_72 h
            · have h := hs_it c h
              refine pw_iconst eX9_alike_67 ki_1 ?_
              refine pw_goto (pc' := 72) eX9_alike_68 (by decide) ?_
              exact pw_iret' eX9_alike_72 h
          · have h := hs_ie c h
            refine pw_aload_n eX9_alike_45 rfl ?_
            refine pw_bipush eX9_alike_46 kb_m2 ?_
            obtain ⟨q6, g, h⟩ := hs_bind h
            refine pw_mV1i eX9_alike_48 mv_X9_63 ob_67 (s_X9_refuses g) (Nat.le_of_ble_eq_true rfl) ?_
            exact pw_iret' eX9_alike_51 h
      · have h := hs_ie c h
        refine pw_aload_n eX9_alike_22 rfl ?_
        refine pw_bipush eX9_alike_23 kb_m5 ?_
        obtain ⟨q7, g, h⟩ := hs_bind h
        refine pw_mV1i eX9_alike_25 mv_X9_63 ob_67 (s_X9_refuses g) (Nat.le_of_ble_eq_true rfl) ?_
        exact pw_iret' eX9_alike_28 h
    · have h := hs_ie c h
      refine pw_aload_n eX9_alike_8 rfl ?_
      refine pw_bipush eX9_alike_9 kb_m2 ?_
      obtain ⟨q8, g, h⟩ := hs_bind h
      refine pw_mV1i eX9_alike_11 mv_X9_63 ob_67 (s_X9_refuses g) (Nat.le_of_ble_eq_true rfl) ?_
      exact pw_iret' eX9_alike_14 h

def f_X9_span_30 : Nat → Int32 → Int32 → Int32 → HS → Option (Int32 × HS)
  | 0, _, _, _, _ => none
  | n + 1, x2, x3, x4, σ =>
    if (4 : Int32) ≤ x4 then
      some (x3, σ)
    else
      (f_X9_has x2 x4 σ).bind fun q5 =>
      if q5.1 = 0 then
        f_X9_span_30 n x2 x3 (x4 + 1) q5.2
      else
        if (x4 + 1) ≤ x3 then
          f_X9_span_30 n x2 x3 (x4 + 1) q5.2
        else
          f_X9_span_30 n x2 (x4 + 1) (x4 + 1) q5.2
set_option maxRecDepth 20000 in
theorem w_X9_span_30 {d : Nat} {p : Int32 × HS} : ∀ (n : Nat) (x2 : Int32) (x3 : Int32) (x4 : Int32) (σ : HS), f_X9_span_30 n x2 x3 x4 σ = some p → PW RX9 cX9_span 5 (hs_zM (d + 4) (some .int) (some (.int p.1), p.2)) 30 [none, none, some (.int x2), some (.int x3), some (.int x4)] [] σ := by
  intro n
  induction n with
  | zero =>
    intro x2 x3 x4 σ h
    rw [f_X9_span_30] at h
    cases h
  | succ n ih =>
    intro x2 x3 x4 σ h
    rw [f_X9_span_30] at h
    refine pw_iload eX9_span_30 rfl ?_
    refine pw_iconst eX9_span_32 ki_4 ?_
    refine pw_icmp_ge (tgt := 68) eX9_span_33 (by decide) (fun c => ?_) (fun c => ?_)
    · have h := hs_it c h
      refine pw_iload_n eX9_span_68 rfl ?_
      exact pw_iret' eX9_span_69 h
    · have h := hs_ie c h
      refine pw_iload_n eX9_span_36 rfl ?_
      refine pw_iload eX9_span_37 rfl ?_
      obtain ⟨q5, g, h⟩ := hs_bind h
      refine pw_mS2i eX9_span_39 ms_X9_92 (s_X9_has g) (Nat.le_of_ble_eq_true rfl) ?_
      refine pw_if_eq (tgt := 60) eX9_span_42 (by decide) (fun c => ?_) (fun c => ?_)
      · have h := hs_it c h
        refine pw_iload_n eX9_span_60 rfl ?_
        refine pw_istore_n eX9_span_61 rfl (by decide) rfl rfl ?_
        refine pw_iinc eX9_span_62 (by decide) rfl ki_1 rfl rfl ?_
        refine pw_goto (pc' := 30) eX9_span_65 (by decide) ?_
        exact ih x2 x3 (x4 + 1) q5.2 h
      · have h := hs_ie c h
        refine pw_iload eX9_span_45 rfl ?_
        refine pw_iconst eX9_span_47 ki_1 ?_
        refine pw_iadd eX9_span_48 ?_
        refine pw_iload_n eX9_span_49 rfl ?_
        refine pw_icmp_le (tgt := 60) eX9_span_50 (by decide) (fun c => ?_) (fun c => ?_)
        · have h := hs_it c h
          refine pw_iload_n eX9_span_60 rfl ?_
          refine pw_istore_n eX9_span_61 rfl (by decide) rfl rfl ?_
          refine pw_iinc eX9_span_62 (by decide) rfl ki_1 rfl rfl ?_
          refine pw_goto (pc' := 30) eX9_span_65 (by decide) ?_
          exact ih x2 x3 (x4 + 1) q5.2 h
        · have h := hs_ie c h
          refine pw_iload eX9_span_53 rfl ?_
          refine pw_iconst eX9_span_55 ki_1 ?_
          refine pw_iadd eX9_span_56 ?_
          refine pw_goto (pc' := 61) eX9_span_57 (by decide) ?_
          refine pw_istore_n eX9_span_61 rfl (by decide) rfl rfl ?_
          refine pw_iinc eX9_span_62 (by decide) rfl ki_1 rfl rfl ?_
          refine pw_goto (pc' := 30) eX9_span_65 (by decide) ?_
          exact ih x2 (x4 + 1) (x4 + 1) q5.2 h
def f_X9_span (x1 : Int32) (σ : HS) : Option (Int32 × HS) :=
  (f_X9_ofOne x1 0 σ).bind fun q1 =>
  (f_X9_ofOne x1 1 q1.2).bind fun q2 =>
  (f_X9_ofOne x1 2 q2.2).bind fun q3 =>
  (f_X9_latency x1 q3.2).bind fun q4 =>
  f_X9_span_30 FU ((q1.1 ||| q2.1) ||| q3.1) q4.1 0 q4.2
set_option maxRecDepth 20000 in
theorem s_X9_span {d : Nat} {x1 : Int32} {σ : HS} {p : Int32 × HS} (h : f_X9_span x1 σ = some p) : hs_Spec (d + 4) yX9_span cX9_span 5 (some .int) [.ref 67, .int x1] σ (some (.int p.1), p.2) := by
  refine hs_spec' (by decide +kernel) rfl (Nat.le_of_ble_eq_true rfl) ?_
  show PW RX9 cX9_span 5 (hs_zM (d + 4) (some .int) (some (.int p.1), p.2)) 0 [some (.ref 67), some (.int x1), none, none, none] [] σ
  rw [f_X9_span] at h
  refine pw_aload_n eX9_span_0 rfl ?_
  refine pw_iload_n eX9_span_1 rfl ?_
  refine pw_iconst eX9_span_2 ki_0 ?_
  obtain ⟨q1, g, h⟩ := hs_bind h
  refine pw_mV2i eX9_span_3 mv_X9_82 ob_67 (s_X9_ofOne g) (Nat.le_of_ble_eq_true rfl) ?_
  refine pw_aload_n eX9_span_6 rfl ?_
  refine pw_iload_n eX9_span_7 rfl ?_
  refine pw_iconst eX9_span_8 ki_1 ?_
  obtain ⟨q2, g, h⟩ := hs_bind h
  refine pw_mV2i eX9_span_9 mv_X9_82 ob_67 (s_X9_ofOne g) (Nat.le_of_ble_eq_true rfl) ?_
  refine pw_ior eX9_span_12 ?_
  refine pw_aload_n eX9_span_13 rfl ?_
  refine pw_iload_n eX9_span_14 rfl ?_
  refine pw_iconst eX9_span_15 ki_2 ?_
  obtain ⟨q3, g, h⟩ := hs_bind h
  refine pw_mV2i eX9_span_16 mv_X9_82 ob_67 (s_X9_ofOne g) (Nat.le_of_ble_eq_true rfl) ?_
  refine pw_ior eX9_span_19 ?_
  refine pw_istore_n eX9_span_20 rfl (by decide) rfl rfl ?_
  refine pw_aload_n eX9_span_21 rfl ?_
  refine pw_iload_n eX9_span_22 rfl ?_
  obtain ⟨q4, g, h⟩ := hs_bind h
  refine pw_mV1i eX9_span_23 mv_X9_153 ob_67 (s_X9_latency g) (Nat.le_of_ble_eq_true rfl) ?_
  refine pw_istore_n eX9_span_26 rfl (by decide) rfl rfl ?_
  refine pw_iconst eX9_span_27 ki_0 ?_
  refine pw_istore eX9_span_28 (by decide) rfl rfl ?_
  exact pw_le (w_X9_span_30 FU ((q1.1 ||| q2.1) ||| q3.1) q4.1 0 q4.2 h) ⟨rfl, rfl, rfl, trivial⟩

def f_X9_behind (x1 : Int32) (x2 : Int32) (σ : HS) : Option (Int32 × HS) :=
  if x1 = 1 then
    (f_X9_latency x2 σ).bind fun q1 =>
    some (q1.1, q1.2)
  else
    some (0, σ)
set_option maxRecDepth 20000 in
theorem s_X9_behind {d : Nat} {x1 : Int32} {x2 : Int32} {σ : HS} {p : Int32 × HS} (h : f_X9_behind x1 x2 σ = some p) : hs_Spec (d + 4) yX9_behind cX9_behind 3 (some .int) [.ref 67, .int x1, .int x2] σ (some (.int p.1), p.2) := by
  refine hs_spec' (by decide +kernel) rfl (Nat.le_of_ble_eq_true rfl) ?_
  show PW RX9 cX9_behind 3 (hs_zM (d + 4) (some .int) (some (.int p.1), p.2)) 0 [some (.ref 67), some (.int x1), some (.int x2)] [] σ
  rw [f_X9_behind] at h
  refine pw_iload_n eX9_behind_0 rfl ?_
  refine pw_iconst eX9_behind_1 ki_1 ?_
  refine pw_icmp_ne (tgt := 13) eX9_behind_2 (by decide) (fun c => ?_) (fun c => ?_)
  · have h := hs_ie c h
    refine pw_iconst eX9_behind_13 ki_0 ?_
    exact pw_iret' eX9_behind_14 h
  · have h := hs_it c h
    refine pw_aload_n eX9_behind_5 rfl ?_
    refine pw_iload_n eX9_behind_6 rfl ?_
    obtain ⟨q1, g, h⟩ := hs_bind h
    refine pw_mV1i eX9_behind_7 mv_X9_153 ob_67 (s_X9_latency g) (Nat.le_of_ble_eq_true rfl) ?_
    refine pw_goto (pc' := 14) eX9_behind_10 (by decide) ?_
    exact pw_iret' eX9_behind_14 h

def f_X9_findWays_134 (rec : Int32 → Int32 → Int32 → HS → Option (HS)) (x1 : Int32) (x2 : Int32) (x3 : Int32) (x4 : Int32) (t0 : Int32) (t1 : Int32) (σ : HS) : Option (HS) :=
  (stI σ 76 6 t1 t0).bind fun σ10 =>
  (ldI (σ10.1 77) 6 x3).bind fun v11 =>
  (ldI (σ10.1 77) 6 x2).bind fun v12 =>
  if (v11 + x4) ≤ v12 then
    (ldI (σ10.1 77) 6 x2).bind fun v13 =>
    (stI σ10 77 6 x2 v13).bind fun σ14 =>
    rec x1 x2 (x3 + 1) σ14
  else
    (ldI (σ10.1 77) 6 x3).bind fun v15 =>
    (stI σ10 77 6 x2 (v15 + x4)).bind fun σ16 =>
    rec x1 x2 (x3 + 1) σ16
set_option maxRecDepth 20000 in
theorem w_X9_findWays_134 {d : Nat} {p : HS} {rec : Int32 → Int32 → Int32 → HS → Option (HS)} (hrec : ∀ (x1 : Int32) (x2 : Int32) (x3 : Int32) (σ : HS), rec x1 x2 x3 σ = some p → PW RX9 cX9_findWays 5 (hs_zM (d + 5) none (none, p)) 60 [some (.ref 67), some (.int x1), some (.int x2), some (.int x3), none] [] σ) : ∀ (x1 : Int32) (x2 : Int32) (x3 : Int32) (x4 : Int32) (t0 : Int32) (t1 : Int32) (σ : HS), f_X9_findWays_134 rec x1 x2 x3 x4 t0 t1 σ = some p → PW RX9 cX9_findWays 5 (hs_zM (d + 5) none (none, p)) 134 [some (.ref 67), some (.int x1), some (.int x2), some (.int x3), some (.int x4)] [.int t0, .int t1, .ref 76] σ := by
  intro x1 x2 x3 x4 t0 t1 σ h
  rw [f_X9_findWays_134] at h
  obtain ⟨σ10, g, h⟩ := hs_bind h
  refine pw_iast' eX9_findWays_134 ai_76 g ?_
  refine pw_aload_n eX9_findWays_135 rfl ?_
  refine pw_getR (r := 77) eX9_findWays_136 fl_X9_37 ob_67 rfl ?_
  refine pw_iload_n eX9_findWays_139 rfl ?_
  refine pw_aload_n eX9_findWays_140 rfl ?_
  refine pw_getR (r := 77) eX9_findWays_141 fl_X9_37 ob_67 rfl ?_
  refine pw_iload_n eX9_findWays_144 rfl ?_
  obtain ⟨v11, g, h⟩ := hs_bind h
  refine pw_iald' eX9_findWays_145 ai_77 g ?_
  refine pw_iload eX9_findWays_146 rfl ?_
  refine pw_iadd eX9_findWays_148 ?_
  refine pw_aload_n eX9_findWays_149 rfl ?_
  refine pw_getR (r := 77) eX9_findWays_150 fl_X9_37 ob_67 rfl ?_
  refine pw_iload_n eX9_findWays_153 rfl ?_
  obtain ⟨v12, g, h⟩ := hs_bind h
  refine pw_iald' eX9_findWays_154 ai_77 g ?_
  refine pw_icmp_le (tgt := 170) eX9_findWays_155 (by decide) (fun c => ?_) (fun c => ?_)
  · have h := hs_it c h
    refine pw_aload_n eX9_findWays_170 rfl ?_
    refine pw_getR (r := 77) eX9_findWays_171 fl_X9_37 ob_67 rfl ?_
    refine pw_iload_n eX9_findWays_174 rfl ?_
    obtain ⟨v13, g, h⟩ := hs_bind h
    refine pw_iald' eX9_findWays_175 ai_77 g ?_
    obtain ⟨σ14, g, h⟩ := hs_bind h
    refine pw_iast' eX9_findWays_176 ai_77 g ?_
    refine pw_iinc eX9_findWays_177 (by decide) rfl ki_1 rfl rfl ?_
    refine pw_goto (pc' := 60) eX9_findWays_180 (by decide) ?_
    exact pw_le (hrec x1 x2 (x3 + 1) σ14 h) ⟨rfl, rfl, rfl, rfl, trivial⟩
  · have h := hs_ie c h
    refine pw_aload_n eX9_findWays_158 rfl ?_
    refine pw_getR (r := 77) eX9_findWays_159 fl_X9_37 ob_67 rfl ?_
    refine pw_iload_n eX9_findWays_162 rfl ?_
    obtain ⟨v15, g, h⟩ := hs_bind h
    refine pw_iald' eX9_findWays_163 ai_77 g ?_
    refine pw_iload eX9_findWays_164 rfl ?_
    refine pw_iadd eX9_findWays_166 ?_
    refine pw_goto (pc' := 176) eX9_findWays_167 (by decide) ?_
    obtain ⟨σ16, g, h⟩ := hs_bind h
    refine pw_iast' eX9_findWays_176 ai_77 g ?_
    refine pw_iinc eX9_findWays_177 (by decide) rfl ki_1 rfl rfl ?_
    refine pw_goto (pc' := 60) eX9_findWays_180 (by decide) ?_
    exact pw_le (hrec x1 x2 (x3 + 1) σ16 h) ⟨rfl, rfl, rfl, rfl, trivial⟩
def f_X9_findWays_60 (k : Int32 → Int32 → HS → Option (HS)) : Nat → Int32 → Int32 → Int32 → HS → Option (HS)
  | 0, _, _, _, _ => none
  | n + 1, x1, x2, x3, σ =>
    (ldI (σ.1 68) 66 23).bind fun v3 =>
    if v3 ≤ x3 then
      k x1 x2 σ
    else
      (f_X9_counts x2 x3 σ).bind fun q4 =>
      if q4.1 = 0 then
        f_X9_findWays_60 k n x1 x2 (x3 + 1) q4.2
      else
        (f_X9_counts x2 x3 q4.2).bind fun q5 =>
        (f_X9_behind q5.1 x3 q5.2).bind fun q6 =>
        (ldI (q6.2.1 76) 6 x2).bind fun v7 =>
        (ldI (q6.2.1 76) 6 x3).bind fun v8 =>
        if (q6.1 + v7) ≤ v8 then
          (ldI (q6.2.1 76) 6 x3).bind fun v9 =>
          f_X9_findWays_134 (f_X9_findWays_60 k n) x1 x2 x3 q6.1 v9 x3 q6.2
        else
          (ldI (q6.2.1 76) 6 x2).bind fun v17 =>
          f_X9_findWays_134 (f_X9_findWays_60 k n) x1 x2 x3 q6.1 (q6.1 + v17) x3 q6.2
set_option maxRecDepth 20000 in
theorem w_X9_findWays_60 {d : Nat} {p : HS} {k : Int32 → Int32 → HS → Option (HS)} (hk : ∀ (x1 : Int32) (x2 : Int32) (σ : HS), k x1 x2 σ = some p → PW RX9 cX9_findWays 5 (hs_zM (d + 5) none (none, p)) 183 [some (.ref 67), some (.int x1), some (.int x2), none, none] [] σ) : ∀ (n : Nat) (x1 : Int32) (x2 : Int32) (x3 : Int32) (σ : HS), f_X9_findWays_60 k n x1 x2 x3 σ = some p → PW RX9 cX9_findWays 5 (hs_zM (d + 5) none (none, p)) 60 [some (.ref 67), some (.int x1), some (.int x2), some (.int x3), none] [] σ := by
  intro n
  induction n with
  | zero =>
    intro x1 x2 x3 σ h
    rw [f_X9_findWays_60] at h
    cases h
  | succ n ih =>
    intro x1 x2 x3 σ h
    rw [f_X9_findWays_60] at h
    refine pw_iload_n eX9_findWays_60 rfl ?_
    refine pw_aload_n eX9_findWays_61 rfl ?_
    refine pw_getR (r := 68) eX9_findWays_62 fl_X9_7 ob_67 rfl ?_
    refine pw_bipush eX9_findWays_65 kb_23 ?_
    obtain ⟨v3, g, h⟩ := hs_bind h
    refine pw_iald' eX9_findWays_67 ai_68 g ?_
    refine pw_icmp_ge (tgt := 183) eX9_findWays_68 (by decide) (fun c => ?_) (fun c => ?_)
    · have h := hs_it c h
      exact pw_le (hk x1 x2 σ h) ⟨rfl, rfl, rfl, trivial⟩
    · have h := hs_ie c h
      refine pw_aload_n eX9_findWays_71 rfl ?_
      refine pw_iload_n eX9_findWays_72 rfl ?_
      refine pw_iload_n eX9_findWays_73 rfl ?_
      obtain ⟨q4, g, h⟩ := hs_bind h
      refine pw_mV2i eX9_findWays_74 mv_X9_159 ob_67 (s_X9_counts g) (Nat.le_of_ble_eq_true rfl) ?_
      refine pw_if_eq (tgt := 177) eX9_findWays_77 (by decide) (fun c => ?_) (fun c => ?_)
      · have h := hs_it c h
        refine pw_iinc eX9_findWays_177 (by decide) rfl ki_1 rfl rfl ?_
        refine pw_goto (pc' := 60) eX9_findWays_180 (by decide) ?_
        exact ih x1 x2 (x3 + 1) q4.2 h
      · have h := hs_ie c h
        refine pw_aload_n eX9_findWays_80 rfl ?_
        refine pw_aload_n eX9_findWays_81 rfl ?_
        refine pw_iload_n eX9_findWays_82 rfl ?_
        refine pw_iload_n eX9_findWays_83 rfl ?_
        obtain ⟨q5, g, h⟩ := hs_bind h
        refine pw_mV2i eX9_findWays_84 mv_X9_159 ob_67 (s_X9_counts g) (Nat.le_of_ble_eq_true rfl) ?_
        refine pw_iload_n eX9_findWays_87 rfl ?_
        obtain ⟨q6, g, h⟩ := hs_bind h
        refine pw_mV2i eX9_findWays_88 mv_X9_162 ob_67 (s_X9_behind g) (Nat.le_of_ble_eq_true rfl) ?_
        refine pw_istore eX9_findWays_91 (by decide) rfl rfl ?_
        refine pw_aload_n eX9_findWays_93 rfl ?_
        refine pw_getR (r := 76) eX9_findWays_94 fl_X9_34 ob_67 rfl ?_
        refine pw_iload_n eX9_findWays_97 rfl ?_
        refine pw_iload eX9_findWays_98 rfl ?_
        refine pw_aload_n eX9_findWays_100 rfl ?_
        refine pw_getR (r := 76) eX9_findWays_101 fl_X9_34 ob_67 rfl ?_
        refine pw_iload_n eX9_findWays_104 rfl ?_
        obtain ⟨v7, g, h⟩ := hs_bind h
        refine pw_iald' eX9_findWays_105 ai_76 g ?_
        refine pw_iadd eX9_findWays_106 ?_
        refine pw_aload_n eX9_findWays_107 rfl ?_
        refine pw_getR (r := 76) eX9_findWays_108 fl_X9_34 ob_67 rfl ?_
        refine pw_iload_n eX9_findWays_111 rfl ?_
        obtain ⟨v8, g, h⟩ := hs_bind h
        refine pw_iald' eX9_findWays_112 ai_76 g ?_
        refine pw_icmp_le (tgt := 128) eX9_findWays_113 (by decide) (fun c => ?_) (fun c => ?_)
        · have h := hs_it c h
          refine pw_aload_n eX9_findWays_128 rfl ?_
          refine pw_getR (r := 76) eX9_findWays_129 fl_X9_34 ob_67 rfl ?_
          refine pw_iload_n eX9_findWays_132 rfl ?_
          obtain ⟨v9, g, h⟩ := hs_bind h
          refine pw_iald' eX9_findWays_133 ai_76 g ?_
          exact w_X9_findWays_134 ih x1 x2 x3 q6.1 v9 x3 q6.2 h
        · have h := hs_ie c h
          refine pw_iload eX9_findWays_116 rfl ?_
          refine pw_aload_n eX9_findWays_118 rfl ?_
          refine pw_getR (r := 76) eX9_findWays_119 fl_X9_34 ob_67 rfl ?_
          refine pw_iload_n eX9_findWays_122 rfl ?_
          obtain ⟨v17, g, h⟩ := hs_bind h
          refine pw_iald' eX9_findWays_123 ai_76 g ?_
          refine pw_iadd eX9_findWays_124 ?_
          refine pw_goto (pc' := 134) eX9_findWays_125 (by decide) ?_
          exact w_X9_findWays_134 ih x1 x2 x3 q6.1 (q6.1 + v17) x3 q6.2 h
def f_X9_findWays_47 (k : Int32 → HS → Option (HS)) : Nat → Int32 → Int32 → HS → Option (HS)
  | 0, _, _, _ => none
  | n + 1, x1, x2, σ =>
    (ldI (σ.1 68) 66 23).bind fun v2 =>
    if v2 ≤ x2 then
      k x1 σ
    else
      f_X9_findWays_60 (fun e18 e19 σ20 =>
        f_X9_findWays_47 k n e18 (e19 + 1) σ20) FU x1 x2 0 σ
set_option maxRecDepth 20000 in
theorem w_X9_findWays_47 {d : Nat} {p : HS} {k : Int32 → HS → Option (HS)} (hk : ∀ (x1 : Int32) (σ : HS), k x1 σ = some p → PW RX9 cX9_findWays 5 (hs_zM (d + 5) none (none, p)) 189 [some (.ref 67), some (.int x1), none, none, none] [] σ) : ∀ (n : Nat) (x1 : Int32) (x2 : Int32) (σ : HS), f_X9_findWays_47 k n x1 x2 σ = some p → PW RX9 cX9_findWays 5 (hs_zM (d + 5) none (none, p)) 47 [some (.ref 67), some (.int x1), some (.int x2), none, none] [] σ := by
  intro n
  induction n with
  | zero =>
    intro x1 x2 σ h
    rw [f_X9_findWays_47] at h
    cases h
  | succ n ih =>
    intro x1 x2 σ h
    rw [f_X9_findWays_47] at h
    refine pw_iload_n eX9_findWays_47 rfl ?_
    refine pw_aload_n eX9_findWays_48 rfl ?_
    refine pw_getR (r := 68) eX9_findWays_49 fl_X9_7 ob_67 rfl ?_
    refine pw_bipush eX9_findWays_52 kb_23 ?_
    obtain ⟨v2, g, h⟩ := hs_bind h
    refine pw_iald' eX9_findWays_54 ai_68 g ?_
    refine pw_icmp_ge (tgt := 189) eX9_findWays_55 (by decide) (fun c => ?_) (fun c => ?_)
    · have h := hs_it c h
      exact pw_le (hk x1 σ h) ⟨rfl, rfl, trivial⟩
    · have h := hs_ie c h
      refine pw_iconst eX9_findWays_58 ki_0 ?_
      refine pw_istore_n eX9_findWays_59 rfl (by decide) rfl rfl ?_
      refine w_X9_findWays_60 (fun e18 e19 σ20 h => ?_) FU x1 x2 0 σ h
      refine pw_iinc eX9_findWays_183 (by decide) rfl ki_1 rfl rfl ?_
      refine pw_goto (pc' := 47) eX9_findWays_186 (by decide) ?_
      exact ih e18 (e19 + 1) σ20 h
def f_X9_findWays_39 : Nat → Int32 → HS → Option (HS)
  | 0, _, _ => none
  | n + 1, x1, σ =>
    if (6 : Int32) ≤ x1 then
      some σ
    else
      f_X9_findWays_47 (fun e21 σ22 =>
        f_X9_findWays_39 n (e21 + 1) σ22) FU x1 0 σ
set_option maxRecDepth 20000 in
theorem w_X9_findWays_39 {d : Nat} {p : HS} : ∀ (n : Nat) (x1 : Int32) (σ : HS), f_X9_findWays_39 n x1 σ = some p → PW RX9 cX9_findWays 5 (hs_zM (d + 5) none (none, p)) 39 [some (.ref 67), some (.int x1), none, none, none] [] σ := by
  intro n
  induction n with
  | zero =>
    intro x1 σ h
    rw [f_X9_findWays_39] at h
    cases h
  | succ n ih =>
    intro x1 σ h
    rw [f_X9_findWays_39] at h
    refine pw_iload_n eX9_findWays_39 rfl ?_
    refine pw_bipush eX9_findWays_40 kb_6 ?_
    refine pw_icmp_ge (tgt := 195) eX9_findWays_42 (by decide) (fun c => ?_) (fun c => ?_)
    · have h := hs_it c h
      exact pw_vret' eX9_findWays_195 h
    · have h := hs_ie c h
      refine pw_iconst eX9_findWays_45 ki_0 ?_
      refine pw_istore_n eX9_findWays_46 rfl (by decide) rfl rfl ?_
      refine w_X9_findWays_47 (fun e21 σ22 h => ?_) FU x1 0 σ h
      refine pw_iinc eX9_findWays_189 (by decide) rfl ki_1 rfl rfl ?_
      refine pw_goto (pc' := 39) eX9_findWays_192 (by decide) ?_
      exact ih (e21 + 1) σ22 h
def f_X9_findWays_2 : Nat → Int32 → HS → Option (HS)
  | 0, _, _ => none
  | n + 1, x1, σ =>
    (ldI (σ.1 68) 66 23).bind fun v1 =>
    if v1 ≤ x1 then
      f_X9_findWays_39 FU 0 σ
    else
      (f_X9_span x1 σ).bind fun q23 =>
      (stI q23.2 76 6 x1 q23.1).bind fun σ24 =>
      (stI σ24 77 6 x1 0).bind fun σ25 =>
      f_X9_findWays_2 n (x1 + 1) σ25
set_option maxRecDepth 20000 in
theorem w_X9_findWays_2 {d : Nat} {p : HS} : ∀ (n : Nat) (x1 : Int32) (σ : HS), f_X9_findWays_2 n x1 σ = some p → PW RX9 cX9_findWays 5 (hs_zM (d + 5) none (none, p)) 2 [some (.ref 67), some (.int x1), none, none, none] [] σ := by
  intro n
  induction n with
  | zero =>
    intro x1 σ h
    rw [f_X9_findWays_2] at h
    cases h
  | succ n ih =>
    intro x1 σ h
    rw [f_X9_findWays_2] at h
    refine pw_iload_n eX9_findWays_2 rfl ?_
    refine pw_aload_n eX9_findWays_3 rfl ?_
    refine pw_getR (r := 68) eX9_findWays_4 fl_X9_7 ob_67 rfl ?_
    refine pw_bipush eX9_findWays_7 kb_23 ?_
    obtain ⟨v1, g, h⟩ := hs_bind h
    refine pw_iald' eX9_findWays_9 ai_68 g ?_
    refine pw_icmp_ge (tgt := 37) eX9_findWays_10 (by decide) (fun c => ?_) (fun c => ?_)
    · have h := hs_it c h
      refine pw_iconst eX9_findWays_37 ki_0 ?_
      refine pw_istore_n eX9_findWays_38 rfl (by decide) rfl rfl ?_
      exact w_X9_findWays_39 FU 0 σ h
    · have h := hs_ie c h
      refine pw_aload_n eX9_findWays_13 rfl ?_
      refine pw_getR (r := 76) eX9_findWays_14 fl_X9_34 ob_67 rfl ?_
      refine pw_iload_n eX9_findWays_17 rfl ?_
      refine pw_aload_n eX9_findWays_18 rfl ?_
      refine pw_iload_n eX9_findWays_19 rfl ?_
      obtain ⟨q23, g, h⟩ := hs_bind h
      refine pw_mV1i eX9_findWays_20 mv_X9_156 ob_67 (s_X9_span g) (Nat.le_of_ble_eq_true rfl) ?_
      obtain ⟨σ24, g, h⟩ := hs_bind h
      refine pw_iast' eX9_findWays_23 ai_76 g ?_
      refine pw_aload_n eX9_findWays_24 rfl ?_
      refine pw_getR (r := 77) eX9_findWays_25 fl_X9_37 ob_67 rfl ?_
      refine pw_iload_n eX9_findWays_28 rfl ?_
      refine pw_iconst eX9_findWays_29 ki_0 ?_
      obtain ⟨σ25, g, h⟩ := hs_bind h
      refine pw_iast' eX9_findWays_30 ai_77 g ?_
      refine pw_iinc eX9_findWays_31 (by decide) rfl ki_1 rfl rfl ?_
      refine pw_goto (pc' := 2) eX9_findWays_34 (by decide) ?_
      exact ih (x1 + 1) σ25 h
def f_X9_findWays (σ : HS) : Option (HS) :=
  f_X9_findWays_2 FU 0 σ
set_option maxRecDepth 20000 in
theorem s_X9_findWays {d : Nat} {σ : HS} {p : HS} (h : f_X9_findWays σ = some p) : hs_Spec (d + 5) yX9_findWays cX9_findWays 5 none [.ref 67] σ (none, p) := by
  refine hs_spec' (by decide +kernel) rfl (Nat.le_of_ble_eq_true rfl) ?_
  show PW RX9 cX9_findWays 5 (hs_zM (d + 5) none (none, p)) 0 [some (.ref 67), none, none, none, none] [] σ
  rw [f_X9_findWays] at h
  refine pw_iconst eX9_findWays_0 ki_0 ?_
  refine pw_istore_n eX9_findWays_1 rfl (by decide) rfl rfl ?_
  exact w_X9_findWays_2 FU 0 σ h

def f_X9_heldTurns_18 (k : Int32 → Int32 → Int32 → HS → Option (Int32 × HS)) : Nat → Int32 → Int32 → Int32 → Int32 → HS → Option (Int32 × HS)
  | 0, _, _, _, _, _ => none
  | n + 1, x1, x2, x3, x4, σ =>
    if (4 : Int32) ≤ x4 then
      k x1 x2 x3 σ
    else
      (f_X9_ofOne x3 x1 σ).bind fun q2 =>
      (f_X9_has q2.1 x4 q2.2).bind fun q3 =>
      if q3.1 = 0 then
        f_X9_heldTurns_18 k n x1 (x2 + 0) x3 (x4 + 1) q3.2
      else
        f_X9_heldTurns_18 k n x1 (x2 + 1) x3 (x4 + 1) q3.2
set_option maxRecDepth 20000 in
theorem w_X9_heldTurns_18 {d : Nat} {p : Int32 × HS} {k : Int32 → Int32 → Int32 → HS → Option (Int32 × HS)} (hk : ∀ (x1 : Int32) (x2 : Int32) (x3 : Int32) (σ : HS), k x1 x2 x3 σ = some p → PW RX9 cX9_heldTurns 5 (hs_zM (d + 3) (some .int) (some (.int p.1), p.2)) 52 [some (.ref 67), some (.int x1), some (.int x2), some (.int x3), none] [] σ) : ∀ (n : Nat) (x1 : Int32) (x2 : Int32) (x3 : Int32) (x4 : Int32) (σ : HS), f_X9_heldTurns_18 k n x1 x2 x3 x4 σ = some p → PW RX9 cX9_heldTurns 5 (hs_zM (d + 3) (some .int) (some (.int p.1), p.2)) 18 [some (.ref 67), some (.int x1), some (.int x2), some (.int x3), some (.int x4)] [] σ := by
  intro n
  induction n with
  | zero =>
    intro x1 x2 x3 x4 σ h
    rw [f_X9_heldTurns_18] at h
    cases h
  | succ n ih =>
    intro x1 x2 x3 x4 σ h
    rw [f_X9_heldTurns_18] at h
    refine pw_iload eX9_heldTurns_18 rfl ?_
    refine pw_iconst eX9_heldTurns_20 ki_4 ?_
    refine pw_icmp_ge (tgt := 52) eX9_heldTurns_21 (by decide) (fun c => ?_) (fun c => ?_)
    · have h := hs_it c h
      exact pw_le (hk x1 x2 x3 σ h) ⟨rfl, rfl, rfl, rfl, trivial⟩
    · have h := hs_ie c h
      refine pw_iload_n eX9_heldTurns_24 rfl ?_
      refine pw_aload_n eX9_heldTurns_25 rfl ?_
      refine pw_iload_n eX9_heldTurns_26 rfl ?_
      refine pw_iload_n eX9_heldTurns_27 rfl ?_
      obtain ⟨q2, g, h⟩ := hs_bind h
      refine pw_mV2i eX9_heldTurns_28 mv_X9_82 ob_67 (s_X9_ofOne g) (Nat.le_of_ble_eq_true rfl) ?_
      refine pw_iload eX9_heldTurns_31 rfl ?_
      obtain ⟨q3, g, h⟩ := hs_bind h
      refine pw_mS2i eX9_heldTurns_33 ms_X9_92 (s_X9_has g) (Nat.le_of_ble_eq_true rfl) ?_
      refine pw_if_eq (tgt := 43) eX9_heldTurns_36 (by decide) (fun c => ?_) (fun c => ?_)
      · have h := hs_it c h
        refine pw_iconst eX9_heldTurns_43 ki_0 ?_
        refine pw_iadd eX9_heldTurns_44 ?_
        refine pw_istore_n eX9_heldTurns_45 rfl (by decide) rfl rfl ?_
        refine pw_iinc eX9_heldTurns_46 (by decide) rfl ki_1 rfl rfl ?_
        refine pw_goto (pc' := 18) eX9_heldTurns_49 (by decide) ?_
        exact ih x1 (x2 + 0) x3 (x4 + 1) q3.2 h
      · have h := hs_ie c h
        refine pw_iconst eX9_heldTurns_39 ki_1 ?_
        refine pw_goto (pc' := 44) eX9_heldTurns_40 (by decide) ?_
        refine pw_iadd eX9_heldTurns_44 ?_
        refine pw_istore_n eX9_heldTurns_45 rfl (by decide) rfl rfl ?_
        refine pw_iinc eX9_heldTurns_46 (by decide) rfl ki_1 rfl rfl ?_
        refine pw_goto (pc' := 18) eX9_heldTurns_49 (by decide) ?_
        exact ih x1 (x2 + 1) x3 (x4 + 1) q3.2 h
def f_X9_heldTurns_4 : Nat → Int32 → Int32 → Int32 → HS → Option (Int32 × HS)
  | 0, _, _, _, _ => none
  | n + 1, x1, x2, x3, σ =>
    (ldI (σ.1 68) 66 23).bind fun v1 =>
    if v1 ≤ x3 then
      some (x2, σ)
    else
      f_X9_heldTurns_18 (fun e4 e5 e6 σ7 =>
        f_X9_heldTurns_4 n e4 e5 (e6 + 1) σ7) FU x1 x2 x3 0 σ
set_option maxRecDepth 20000 in
theorem w_X9_heldTurns_4 {d : Nat} {p : Int32 × HS} : ∀ (n : Nat) (x1 : Int32) (x2 : Int32) (x3 : Int32) (σ : HS), f_X9_heldTurns_4 n x1 x2 x3 σ = some p → PW RX9 cX9_heldTurns 5 (hs_zM (d + 3) (some .int) (some (.int p.1), p.2)) 4 [some (.ref 67), some (.int x1), some (.int x2), some (.int x3), none] [] σ := by
  intro n
  induction n with
  | zero =>
    intro x1 x2 x3 σ h
    rw [f_X9_heldTurns_4] at h
    cases h
  | succ n ih =>
    intro x1 x2 x3 σ h
    rw [f_X9_heldTurns_4] at h
    refine pw_iload_n eX9_heldTurns_4 rfl ?_
    refine pw_aload_n eX9_heldTurns_5 rfl ?_
    refine pw_getR (r := 68) eX9_heldTurns_6 fl_X9_7 ob_67 rfl ?_
    refine pw_bipush eX9_heldTurns_9 kb_23 ?_
    obtain ⟨v1, g, h⟩ := hs_bind h
    refine pw_iald' eX9_heldTurns_11 ai_68 g ?_
    refine pw_icmp_ge (tgt := 58) eX9_heldTurns_12 (by decide) (fun c => ?_) (fun c => ?_)
    · have h := hs_it c h
      refine pw_iload_n eX9_heldTurns_58 rfl ?_
      exact pw_iret' eX9_heldTurns_59 h
    · have h := hs_ie c h
      refine pw_iconst eX9_heldTurns_15 ki_0 ?_
      refine pw_istore eX9_heldTurns_16 (by decide) rfl rfl ?_
      refine w_X9_heldTurns_18 (fun e4 e5 e6 σ7 h => ?_) FU x1 x2 x3 0 σ h
      refine pw_iinc eX9_heldTurns_52 (by decide) rfl ki_1 rfl rfl ?_
      refine pw_goto (pc' := 4) eX9_heldTurns_55 (by decide) ?_
      exact ih e4 e5 (e6 + 1) σ7 h
def f_X9_heldTurns (x1 : Int32) (σ : HS) : Option (Int32 × HS) :=
  f_X9_heldTurns_4 FU x1 0 0 σ
set_option maxRecDepth 20000 in
theorem s_X9_heldTurns {d : Nat} {x1 : Int32} {σ : HS} {p : Int32 × HS} (h : f_X9_heldTurns x1 σ = some p) : hs_Spec (d + 3) yX9_heldTurns cX9_heldTurns 5 (some .int) [.ref 67, .int x1] σ (some (.int p.1), p.2) := by
  refine hs_spec' (by decide +kernel) rfl (Nat.le_of_ble_eq_true rfl) ?_
  show PW RX9 cX9_heldTurns 5 (hs_zM (d + 3) (some .int) (some (.int p.1), p.2)) 0 [some (.ref 67), some (.int x1), none, none, none] [] σ
  rw [f_X9_heldTurns] at h
  refine pw_iconst eX9_heldTurns_0 ki_0 ?_
  refine pw_istore_n eX9_heldTurns_1 rfl (by decide) rfl rfl ?_
  refine pw_iconst eX9_heldTurns_2 ki_0 ?_
  refine pw_istore_n eX9_heldTurns_3 rfl (by decide) rfl rfl ?_
  exact w_X9_heldTurns_4 FU x1 0 0 σ h

def f_X9_boundOf_72 : Nat → Int32 → Int32 → HS → Option (Int32 × HS)
  | 0, _, _, _ => none
  | n + 1, x1, x2, σ =>
    if (3 : Int32) ≤ x2 then
      some (x1, σ)
    else
      (f_X9_heldTurns x2 σ).bind fun q7 =>
      if q7.1 ≤ x1 then
        f_X9_boundOf_72 n x1 (x2 + 1) q7.2
      else
        (f_X9_heldTurns x2 q7.2).bind fun q8 =>
        f_X9_boundOf_72 n q8.1 (x2 + 1) q8.2
set_option maxRecDepth 20000 in
theorem w_X9_boundOf_72 {d : Nat} {p : Int32 × HS} : ∀ (n : Nat) (x1 : Int32) (x2 : Int32) (σ : HS), f_X9_boundOf_72 n x1 x2 σ = some p → PW RX9 cX9_boundOf 3 (hs_zM (d + 6) (some .int) (some (.int p.1), p.2)) 72 [some (.ref 67), some (.int x1), some (.int x2)] [] σ := by
  intro n
  induction n with
  | zero =>
    intro x1 x2 σ h
    rw [f_X9_boundOf_72] at h
    cases h
  | succ n ih =>
    intro x1 x2 σ h
    rw [f_X9_boundOf_72] at h
    refine pw_iload_n eX9_boundOf_72 rfl ?_
    refine pw_iconst eX9_boundOf_73 ki_3 ?_
    refine pw_icmp_ge (tgt := 102) eX9_boundOf_74 (by decide) (fun c => ?_) (fun c => ?_)
    · have h := hs_it c h
      refine pw_iload_n eX9_boundOf_102 rfl ?_
      exact pw_iret' eX9_boundOf_103 h
    · have h := hs_ie c h
      refine pw_aload_n eX9_boundOf_77 rfl ?_
      refine pw_iload_n eX9_boundOf_78 rfl ?_
      obtain ⟨q7, g, h⟩ := hs_bind h
      refine pw_mV1i eX9_boundOf_79 mv_X9_168 ob_67 (s_X9_heldTurns g) (Nat.le_of_ble_eq_true rfl) ?_
      refine pw_iload_n eX9_boundOf_82 rfl ?_
      refine pw_icmp_le (tgt := 94) eX9_boundOf_83 (by decide) (fun c => ?_) (fun c => ?_)
      · have h := hs_it c h
        refine pw_iload_n eX9_boundOf_94 rfl ?_
        refine pw_istore_n eX9_boundOf_95 rfl (by decide) rfl rfl ?_
        refine pw_iinc eX9_boundOf_96 (by decide) rfl ki_1 rfl rfl ?_
        refine pw_goto (pc' := 72) eX9_boundOf_99 (by decide) ?_
        exact ih x1 (x2 + 1) q7.2 h
      · have h := hs_ie c h
        refine pw_aload_n eX9_boundOf_86 rfl ?_
        refine pw_iload_n eX9_boundOf_87 rfl ?_
        obtain ⟨q8, g, h⟩ := hs_bind h
        refine pw_mV1i eX9_boundOf_88 mv_X9_168 ob_67 (s_X9_heldTurns g) (Nat.le_of_ble_eq_true rfl) ?_
        refine pw_goto (pc' := 95) eX9_boundOf_91 (by decide) ?_
        refine pw_istore_n eX9_boundOf_95 rfl (by decide) rfl rfl ?_
        refine pw_iinc eX9_boundOf_96 (by decide) rfl ki_1 rfl rfl ?_
        refine pw_goto (pc' := 72) eX9_boundOf_99 (by decide) ?_
        exact ih q8.1 (x2 + 1) q8.2 h
def f_X9_boundOf_32 : Nat → Int32 → Int32 → HS → Option (Int32 × HS)
  | 0, _, _, _ => none
  | n + 1, x1, x2, σ =>
    (ldI (σ.1 68) 66 23).bind fun v6 =>
    if v6 ≤ x2 then
      f_X9_boundOf_72 FU x1 0 σ
    else
      (ldI (σ.1 76) 6 x2).bind fun v9 =>
      if v9 ≤ x1 then
        f_X9_boundOf_32 n x1 (x2 + 1) σ
      else
        (ldI (σ.1 76) 6 x2).bind fun v10 =>
        f_X9_boundOf_32 n v10 (x2 + 1) σ
set_option maxRecDepth 20000 in
theorem w_X9_boundOf_32 {d : Nat} {p : Int32 × HS} : ∀ (n : Nat) (x1 : Int32) (x2 : Int32) (σ : HS), f_X9_boundOf_32 n x1 x2 σ = some p → PW RX9 cX9_boundOf 3 (hs_zM (d + 6) (some .int) (some (.int p.1), p.2)) 32 [some (.ref 67), some (.int x1), some (.int x2)] [] σ := by
  intro n
  induction n with
  | zero =>
    intro x1 x2 σ h
    rw [f_X9_boundOf_32] at h
    cases h
  | succ n ih =>
    intro x1 x2 σ h
    rw [f_X9_boundOf_32] at h
    refine pw_iload_n eX9_boundOf_32 rfl ?_
    refine pw_aload_n eX9_boundOf_33 rfl ?_
    refine pw_getR (r := 68) eX9_boundOf_34 fl_X9_7 ob_67 rfl ?_
    refine pw_bipush eX9_boundOf_37 kb_23 ?_
    obtain ⟨v6, g, h⟩ := hs_bind h
    refine pw_iald' eX9_boundOf_39 ai_68 g ?_
    refine pw_icmp_ge (tgt := 70) eX9_boundOf_40 (by decide) (fun c => ?_) (fun c => ?_)
    · have h := hs_it c h
      refine pw_iconst eX9_boundOf_70 ki_0 ?_
      refine pw_istore_n eX9_boundOf_71 rfl (by decide) rfl rfl ?_
      exact w_X9_boundOf_72 FU x1 0 σ h
    · have h := hs_ie c h
      refine pw_aload_n eX9_boundOf_43 rfl ?_
      refine pw_getR (r := 76) eX9_boundOf_44 fl_X9_34 ob_67 rfl ?_
      refine pw_iload_n eX9_boundOf_47 rfl ?_
      obtain ⟨v9, g, h⟩ := hs_bind h
      refine pw_iald' eX9_boundOf_48 ai_76 g ?_
      refine pw_iload_n eX9_boundOf_49 rfl ?_
      refine pw_icmp_le (tgt := 62) eX9_boundOf_50 (by decide) (fun c => ?_) (fun c => ?_)
      · have h := hs_it c h
        refine pw_iload_n eX9_boundOf_62 rfl ?_
        refine pw_istore_n eX9_boundOf_63 rfl (by decide) rfl rfl ?_
        refine pw_iinc eX9_boundOf_64 (by decide) rfl ki_1 rfl rfl ?_
        refine pw_goto (pc' := 32) eX9_boundOf_67 (by decide) ?_
        exact ih x1 (x2 + 1) σ h
      · have h := hs_ie c h
        refine pw_aload_n eX9_boundOf_53 rfl ?_
        refine pw_getR (r := 76) eX9_boundOf_54 fl_X9_34 ob_67 rfl ?_
        refine pw_iload_n eX9_boundOf_57 rfl ?_
        obtain ⟨v10, g, h⟩ := hs_bind h
        refine pw_iald' eX9_boundOf_58 ai_76 g ?_
        refine pw_goto (pc' := 63) eX9_boundOf_59 (by decide) ?_
        refine pw_istore_n eX9_boundOf_63 rfl (by decide) rfl rfl ?_
        refine pw_iinc eX9_boundOf_64 (by decide) rfl ki_1 rfl rfl ?_
        refine pw_goto (pc' := 32) eX9_boundOf_67 (by decide) ?_
        exact ih v10 (x2 + 1) σ h
def f_X9_boundOf (σ : HS) : Option (Int32 × HS) :=
  (f_X9_findWays σ).bind fun σ1 =>
  (ldI (σ1.1 68) 66 23).bind fun v2 =>
  (ldI (σ1.1 68) 66 21).bind fun v3 =>
  (ldI (σ1.1 68) 66 21).bind fun v4 =>
  (dvI ((v2 + v3) - 1) v4).bind fun v5 =>
  f_X9_boundOf_32 FU v5 0 σ1
set_option maxRecDepth 20000 in
theorem s_X9_boundOf {d : Nat} {σ : HS} {p : Int32 × HS} (h : f_X9_boundOf σ = some p) : hs_Spec (d + 6) yX9_boundOf cX9_boundOf 3 (some .int) [.ref 67] σ (some (.int p.1), p.2) := by
  refine hs_spec' (by decide +kernel) rfl (Nat.le_of_ble_eq_true rfl) ?_
  show PW RX9 cX9_boundOf 3 (hs_zM (d + 6) (some .int) (some (.int p.1), p.2)) 0 [some (.ref 67), none, none] [] σ
  rw [f_X9_boundOf] at h
  refine pw_aload_n eX9_boundOf_0 rfl ?_
  obtain ⟨σ1, g, h⟩ := hs_bind h
  refine pw_mV0v eX9_boundOf_1 mv_X9_165 ob_67 (s_X9_findWays g) (Nat.le_of_ble_eq_true rfl) ?_
  refine pw_aload_n eX9_boundOf_4 rfl ?_
  refine pw_getR (r := 68) eX9_boundOf_5 fl_X9_7 ob_67 rfl ?_
  refine pw_bipush eX9_boundOf_8 kb_23 ?_
  obtain ⟨v2, g, h⟩ := hs_bind h
  refine pw_iald' eX9_boundOf_10 ai_68 g ?_
  refine pw_aload_n eX9_boundOf_11 rfl ?_
  refine pw_getR (r := 68) eX9_boundOf_12 fl_X9_7 ob_67 rfl ?_
  refine pw_bipush eX9_boundOf_15 kb_21 ?_
  obtain ⟨v3, g, h⟩ := hs_bind h
  refine pw_iald' eX9_boundOf_17 ai_68 g ?_
  refine pw_iadd eX9_boundOf_18 ?_
  refine pw_iconst eX9_boundOf_19 ki_1 ?_
  refine pw_isub eX9_boundOf_20 ?_
  refine pw_aload_n eX9_boundOf_21 rfl ?_
  refine pw_getR (r := 68) eX9_boundOf_22 fl_X9_7 ob_67 rfl ?_
  refine pw_bipush eX9_boundOf_25 kb_21 ?_
  obtain ⟨v4, g, h⟩ := hs_bind h
  refine pw_iald' eX9_boundOf_27 ai_68 g ?_
  obtain ⟨v5, g, h⟩ := hs_bind h
  refine pw_idiv' eX9_boundOf_28 g ?_
  refine pw_istore_n eX9_boundOf_29 rfl (by decide) rfl rfl ?_
  refine pw_iconst eX9_boundOf_30 ki_0 ?_
  refine pw_istore_n eX9_boundOf_31 rfl (by decide) rfl rfl ?_
  exact w_X9_boundOf_32 FU v5 0 σ1 h

def f_X9_bound (σ : HS) : Option (Int32 × HS) :=
  (f_X9_boundOf σ).bind fun q1 =>
  some (q1.1, q1.2)
set_option maxRecDepth 20000 in
theorem s_X9_bound {d : Nat} {σ : HS} {p : Int32 × HS} (h : f_X9_bound σ = some p) : hs_Spec (d + 7) yX9_bound cX9_bound 1 (some .int) [.ref 67] σ (some (.int p.1), p.2) := by
  refine hs_spec' (by decide +kernel) rfl (Nat.le_of_ble_eq_true rfl) ?_
  show PW RX9 cX9_bound 1 (hs_zM (d + 7) (some .int) (some (.int p.1), p.2)) 0 [some (.ref 67)] [] σ
  rw [f_X9_bound] at h
  refine pw_aload_n eX9_bound_0 rfl ?_
  obtain ⟨q1, g, h⟩ := hs_bind h
  refine pw_mV0i eX9_bound_1 mv_X9_171 ob_67 (s_X9_boundOf g) (Nat.le_of_ble_eq_true rfl) ?_
  exact pw_iret' eX9_bound_4 h

def f_X9_isFree_5 : Nat → Int32 → Int32 → Int32 → Int32 → HS → Option (Int32 × HS)
  | 0, _, _, _, _, _ => none
  | n + 1, x1, x2, x3, x4, σ =>
    if (3 : Int32) ≤ x4 then
      (bzI x3).bind fun z1 =>
      some (z1, σ)
    else
      if x3 = 0 then
        f_X9_isFree_5 n x1 x2 0 (x4 + 1) σ
      else
        (ldJ (σ.2 79) 3 x4).bind fun v2 =>
        (f_X9_ofOne x1 x4 σ).bind fun q3 =>
        if (lg_cmp (v2 &&& (((q3.1 : Int32).toInt64) <<< (x2.toInt64 &&& 63))) 0) = 0 then
          f_X9_isFree_5 n x1 x2 1 (x4 + 1) q3.2
        else
          f_X9_isFree_5 n x1 x2 0 (x4 + 1) q3.2
set_option maxRecDepth 20000 in
theorem w_X9_isFree_5 {d : Nat} {p : Int32 × HS} : ∀ (n : Nat) (x1 : Int32) (x2 : Int32) (x3 : Int32) (x4 : Int32) (σ : HS), f_X9_isFree_5 n x1 x2 x3 x4 σ = some p → PW RX9 cX9_isFree 5 (hs_zM (d + 3) (some .boolean) (some (.int p.1), p.2)) 5 [some (.ref 67), some (.int x1), some (.int x2), some (.int x3), some (.int x4)] [] σ := by
  intro n
  induction n with
  | zero =>
    intro x1 x2 x3 x4 σ h
    rw [f_X9_isFree_5] at h
    cases h
  | succ n ih =>
    intro x1 x2 x3 x4 σ h
    rw [f_X9_isFree_5] at h
    refine pw_iload eX9_isFree_5 rfl ?_
    refine pw_iconst eX9_isFree_7 ki_3 ?_
    refine pw_icmp_ge (tgt := 50) eX9_isFree_8 (by decide) (fun c => ?_) (fun c => ?_)
    · have h := hs_it c h
      refine pw_iload_n eX9_isFree_50 rfl ?_
      obtain ⟨z1, g, h⟩ := hs_bind h
      exact pw_bret' eX9_isFree_51 g h
    · have h := hs_ie c h
      refine pw_iload_n eX9_isFree_11 rfl ?_
      refine pw_if_eq (tgt := 42) eX9_isFree_12 (by decide) (fun c => ?_) (fun c => ?_)
      · have h := hs_it c h
        refine pw_iconst eX9_isFree_42 ki_0 ?_
        refine pw_istore_n eX9_isFree_43 rfl (by decide) rfl rfl ?_
        refine pw_iinc eX9_isFree_44 (by decide) rfl ki_1 rfl rfl ?_
        refine pw_goto (pc' := 5) eX9_isFree_47 (by decide) ?_
        exact ih x1 x2 0 (x4 + 1) σ h
      · have h := hs_ie c h
        refine pw_aload_n eX9_isFree_15 rfl ?_
        refine pw_getR (r := 79) eX9_isFree_16 fl_X9_43 ob_67 rfl ?_
        refine pw_iload eX9_isFree_19 rfl ?_
        obtain ⟨v2, g, h⟩ := hs_bind h
        refine pw_lald' eX9_isFree_21 al_79 g ?_
        refine pw_aload_n eX9_isFree_22 rfl ?_
        refine pw_iload_n eX9_isFree_23 rfl ?_
        refine pw_iload eX9_isFree_24 rfl ?_
        obtain ⟨q3, g, h⟩ := hs_bind h
        refine pw_mV2i eX9_isFree_26 mv_X9_82 ob_67 (s_X9_ofOne g) (Nat.le_of_ble_eq_true rfl) ?_
        refine pw_i2l eX9_isFree_29 ?_
        refine pw_iload_n eX9_isFree_30 rfl ?_
        refine pw_lshl eX9_isFree_31 ?_
        refine pw_land eX9_isFree_32 ?_
        refine pw_lconst (v := 0) eX9_isFree_33 rfl ?_
        refine pw_lcmp eX9_isFree_34 ?_
        refine pw_if_ne (tgt := 42) eX9_isFree_35 (by decide) (fun c => ?_) (fun c => ?_)
        · have h := hs_ie c h
          refine pw_iconst eX9_isFree_42 ki_0 ?_
          refine pw_istore_n eX9_isFree_43 rfl (by decide) rfl rfl ?_
          refine pw_iinc eX9_isFree_44 (by decide) rfl ki_1 rfl rfl ?_
          refine pw_goto (pc' := 5) eX9_isFree_47 (by decide) ?_
          exact ih x1 x2 0 (x4 + 1) q3.2 h
        · have h := hs_it c h
          refine pw_iconst eX9_isFree_38 ki_1 ?_
          refine pw_goto (pc' := 43) eX9_isFree_39 (by decide) ?_
          refine pw_istore_n eX9_isFree_43 rfl (by decide) rfl rfl ?_
          refine pw_iinc eX9_isFree_44 (by decide) rfl ki_1 rfl rfl ?_
          refine pw_goto (pc' := 5) eX9_isFree_47 (by decide) ?_
          exact ih x1 x2 1 (x4 + 1) q3.2 h
def f_X9_isFree (x1 : Int32) (x2 : Int32) (σ : HS) : Option (Int32 × HS) :=
  f_X9_isFree_5 FU x1 x2 1 0 σ
set_option maxRecDepth 20000 in
theorem s_X9_isFree {d : Nat} {x1 : Int32} {x2 : Int32} {σ : HS} {p : Int32 × HS} (h : f_X9_isFree x1 x2 σ = some p) : hs_Spec (d + 3) yX9_isFree cX9_isFree 5 (some .boolean) [.ref 67, .int x1, .int x2] σ (some (.int p.1), p.2) := by
  refine hs_spec' (by decide +kernel) rfl (Nat.le_of_ble_eq_true rfl) ?_
  show PW RX9 cX9_isFree 5 (hs_zM (d + 3) (some .boolean) (some (.int p.1), p.2)) 0 [some (.ref 67), some (.int x1), some (.int x2), none, none] [] σ
  rw [f_X9_isFree] at h
  refine pw_iconst eX9_isFree_0 ki_1 ?_
  refine pw_istore_n eX9_isFree_1 rfl (by decide) rfl rfl ?_
  refine pw_iconst eX9_isFree_2 ki_0 ?_
  refine pw_istore eX9_isFree_3 (by decide) rfl rfl ?_
  exact w_X9_isFree_5 FU x1 x2 1 0 σ h

def f_X9_exchange_2 : Nat → Int32 → Int32 → Int32 → HS → Option (HS)
  | 0, _, _, _, _ => none
  | n + 1, x1, x2, x3, σ =>
    if (3 : Int32) ≤ x3 then
      some σ
    else
      (ldJ (σ.2 79) 3 x3).bind fun v1 =>
      (f_X9_ofOne x1 x3 σ).bind fun q2 =>
      (stJ q2.2 79 3 x3 (v1 ^^^ (((q2.1 : Int32).toInt64) <<< (x2.toInt64 &&& 63)))).bind fun σ3 =>
      f_X9_exchange_2 n x1 x2 (x3 + 1) σ3
set_option maxRecDepth 20000 in
theorem w_X9_exchange_2 {d : Nat} {p : HS} : ∀ (n : Nat) (x1 : Int32) (x2 : Int32) (x3 : Int32) (σ : HS), f_X9_exchange_2 n x1 x2 x3 σ = some p → PW RX9 cX9_exchange 4 (hs_zM (d + 3) none (none, p)) 2 [some (.ref 67), some (.int x1), some (.int x2), some (.int x3)] [] σ := by
  intro n
  induction n with
  | zero =>
    intro x1 x2 x3 σ h
    rw [f_X9_exchange_2] at h
    cases h
  | succ n ih =>
    intro x1 x2 x3 σ h
    rw [f_X9_exchange_2] at h
    refine pw_iload_n eX9_exchange_2 rfl ?_
    refine pw_iconst eX9_exchange_3 ki_3 ?_
    refine pw_icmp_ge (tgt := 31) eX9_exchange_4 (by decide) (fun c => ?_) (fun c => ?_)
    · have h := hs_it c h
      exact pw_vret' eX9_exchange_31 h
    · have h := hs_ie c h
      refine pw_aload_n eX9_exchange_7 rfl ?_
      refine pw_getR (r := 79) eX9_exchange_8 fl_X9_43 ob_67 rfl ?_
      refine pw_iload_n eX9_exchange_11 rfl ?_
      refine pw_dup2 eX9_exchange_12 rfl rfl ?_
      obtain ⟨v1, g, h⟩ := hs_bind h
      refine pw_lald' eX9_exchange_13 al_79 g ?_
      refine pw_aload_n eX9_exchange_14 rfl ?_
      refine pw_iload_n eX9_exchange_15 rfl ?_
      refine pw_iload_n eX9_exchange_16 rfl ?_
      obtain ⟨q2, g, h⟩ := hs_bind h
      refine pw_mV2i eX9_exchange_17 mv_X9_82 ob_67 (s_X9_ofOne g) (Nat.le_of_ble_eq_true rfl) ?_
      refine pw_i2l eX9_exchange_20 ?_
      refine pw_iload_n eX9_exchange_21 rfl ?_
      refine pw_lshl eX9_exchange_22 ?_
      refine pw_lxor eX9_exchange_23 ?_
      obtain ⟨σ3, g, h⟩ := hs_bind h
      refine pw_last' eX9_exchange_24 al_79 g ?_
      refine pw_iinc eX9_exchange_25 (by decide) rfl ki_1 rfl rfl ?_
      refine pw_goto (pc' := 2) eX9_exchange_28 (by decide) ?_
      exact ih x1 x2 (x3 + 1) σ3 h
def f_X9_exchange (x1 : Int32) (x2 : Int32) (σ : HS) : Option (HS) :=
  f_X9_exchange_2 FU x1 x2 0 σ
set_option maxRecDepth 20000 in
theorem s_X9_exchange {d : Nat} {x1 : Int32} {x2 : Int32} {σ : HS} {p : HS} (h : f_X9_exchange x1 x2 σ = some p) : hs_Spec (d + 3) yX9_exchange cX9_exchange 4 none [.ref 67, .int x1, .int x2] σ (none, p) := by
  refine hs_spec' (by decide +kernel) rfl (Nat.le_of_ble_eq_true rfl) ?_
  show PW RX9 cX9_exchange 4 (hs_zM (d + 3) none (none, p)) 0 [some (.ref 67), some (.int x1), some (.int x2), none] [] σ
  rw [f_X9_exchange] at h
  refine pw_iconst eX9_exchange_0 ki_0 ?_
  refine pw_istore_n eX9_exchange_1 rfl (by decide) rfl rfl ?_
  exact w_X9_exchange_2 FU x1 x2 0 σ h

def f_X9_clearAll_22 : Nat → Int32 → HS → Option (HS)
  | 0, _, _ => none
  | n + 1, x1, σ =>
    if (6 : Int32) ≤ x1 then
      some σ
    else
      (stI σ 78 6 x1 (-1)).bind fun σ1 =>
      f_X9_clearAll_22 n (x1 + 1) σ1
set_option maxRecDepth 20000 in
theorem w_X9_clearAll_22 {d : Nat} {p : HS} : ∀ (n : Nat) (x1 : Int32) (σ : HS), f_X9_clearAll_22 n x1 σ = some p → PW RX9 cX9_clearAll 2 (hs_zM (d + 1) none (none, p)) 22 [some (.ref 67), some (.int x1)] [] σ := by
  intro n
  induction n with
  | zero =>
    intro x1 σ h
    rw [f_X9_clearAll_22] at h
    cases h
  | succ n ih =>
    intro x1 σ h
    rw [f_X9_clearAll_22] at h
    refine pw_iload_n eX9_clearAll_22 rfl ?_
    refine pw_bipush eX9_clearAll_23 kb_6 ?_
    refine pw_icmp_ge (tgt := 41) eX9_clearAll_25 (by decide) (fun c => ?_) (fun c => ?_)
    · have h := hs_it c h
      exact pw_vret' eX9_clearAll_41 h
    · have h := hs_ie c h
      refine pw_aload_n eX9_clearAll_28 rfl ?_
      refine pw_getR (r := 78) eX9_clearAll_29 fl_X9_40 ob_67 rfl ?_
      refine pw_iload_n eX9_clearAll_32 rfl ?_
      refine pw_iconst eX9_clearAll_33 ki_m1 ?_
      obtain ⟨σ1, g, h⟩ := hs_bind h
      refine pw_iast' eX9_clearAll_34 ai_78 g ?_
      refine pw_iinc eX9_clearAll_35 (by decide) rfl ki_1 rfl rfl ?_
      refine pw_goto (pc' := 22) eX9_clearAll_38 (by decide) ?_
      exact ih (x1 + 1) σ1 h
def f_X9_clearAll_2 : Nat → Int32 → HS → Option (HS)
  | 0, _, _ => none
  | n + 1, x1, σ =>
    if (3 : Int32) ≤ x1 then
      f_X9_clearAll_22 FU 0 σ
    else
      (stJ σ 79 3 x1 0).bind fun σ2 =>
      f_X9_clearAll_2 n (x1 + 1) σ2
set_option maxRecDepth 20000 in
theorem w_X9_clearAll_2 {d : Nat} {p : HS} : ∀ (n : Nat) (x1 : Int32) (σ : HS), f_X9_clearAll_2 n x1 σ = some p → PW RX9 cX9_clearAll 2 (hs_zM (d + 1) none (none, p)) 2 [some (.ref 67), some (.int x1)] [] σ := by
  intro n
  induction n with
  | zero =>
    intro x1 σ h
    rw [f_X9_clearAll_2] at h
    cases h
  | succ n ih =>
    intro x1 σ h
    rw [f_X9_clearAll_2] at h
    refine pw_iload_n eX9_clearAll_2 rfl ?_
    refine pw_iconst eX9_clearAll_3 ki_3 ?_
    refine pw_icmp_ge (tgt := 20) eX9_clearAll_4 (by decide) (fun c => ?_) (fun c => ?_)
    · have h := hs_it c h
      refine pw_iconst eX9_clearAll_20 ki_0 ?_
      refine pw_istore_n eX9_clearAll_21 rfl (by decide) rfl rfl ?_
      exact w_X9_clearAll_22 FU 0 σ h
    · have h := hs_ie c h
      refine pw_aload_n eX9_clearAll_7 rfl ?_
      refine pw_getR (r := 79) eX9_clearAll_8 fl_X9_43 ob_67 rfl ?_
      refine pw_iload_n eX9_clearAll_11 rfl ?_
      refine pw_lconst (v := 0) eX9_clearAll_12 rfl ?_
      obtain ⟨σ2, g, h⟩ := hs_bind h
      refine pw_last' eX9_clearAll_13 al_79 g ?_
      refine pw_iinc eX9_clearAll_14 (by decide) rfl ki_1 rfl rfl ?_
      refine pw_goto (pc' := 2) eX9_clearAll_17 (by decide) ?_
      exact ih (x1 + 1) σ2 h
def f_X9_clearAll (σ : HS) : Option (HS) :=
  f_X9_clearAll_2 FU 0 σ
set_option maxRecDepth 20000 in
theorem s_X9_clearAll {d : Nat} {σ : HS} {p : HS} (h : f_X9_clearAll σ = some p) : hs_Spec (d + 1) yX9_clearAll cX9_clearAll 2 none [.ref 67] σ (none, p) := by
  refine hs_spec' (by decide +kernel) rfl (Nat.le_of_ble_eq_true rfl) ?_
  show PW RX9 cX9_clearAll 2 (hs_zM (d + 1) none (none, p)) 0 [some (.ref 67), none] [] σ
  rw [f_X9_clearAll] at h
  refine pw_iconst eX9_clearAll_0 ki_0 ?_
  refine pw_istore_n eX9_clearAll_1 rfl (by decide) rfl rfl ?_
  exact w_X9_clearAll_2 FU 0 σ h

def f_X9_mayBegin_126 (x4 : Int32) (x5 : Int32) (σ : HS) : Option (Int32 × HS) :=
  if x5 = 0 then
    some (0, σ)
  else
    (ldI (σ.1 68) 66 21).bind fun v2 =>
    if v2 < x4 then
      some (0, σ)
    else
      some (1, σ)
set_option maxRecDepth 20000 in
theorem w_X9_mayBegin_126 {d : Nat} {p : Int32 × HS} : ∀ (x4 : Int32) (x5 : Int32) (σ : HS), f_X9_mayBegin_126 x4 x5 σ = some p → PW RX9 cX9_mayBegin 9 (hs_zM (d + 5) (some .boolean) (some (.int p.1), p.2)) 126 [some (.ref 67), none, none, none, some (.int x4), some (.int x5), none, none, none] [] σ := by
  intro x4 x5 σ h
  rw [f_X9_mayBegin_126] at h
  refine pw_iload eX9_mayBegin_126 rfl ?_
  refine pw_if_eq (tgt := 147) eX9_mayBegin_128 (by decide) (fun c => ?_) (fun c => ?_)
  · have h := hs_it c h
    refine pw_iconst eX9_mayBegin_147 ki_0 ?_
    exact pw_zret' eX9_mayBegin_148 narrow_b0 h
  · have h := hs_ie c h
    refine pw_iload eX9_mayBegin_131 rfl ?_
    refine pw_aload_n eX9_mayBegin_133 rfl ?_
    refine pw_getR (r := 68) eX9_mayBegin_134 fl_X9_7 ob_67 rfl ?_
    refine pw_bipush eX9_mayBegin_137 kb_21 ?_
    obtain ⟨v2, g, h⟩ := hs_bind h
    refine pw_iald' eX9_mayBegin_139 ai_68 g ?_
    refine pw_icmp_gt (tgt := 147) eX9_mayBegin_140 (by decide) (fun c => ?_) (fun c => ?_)
    · have h := hs_it c h
      refine pw_iconst eX9_mayBegin_147 ki_0 ?_
      exact pw_zret' eX9_mayBegin_148 narrow_b0 h
    · have h := hs_ie c h
      refine pw_iconst eX9_mayBegin_143 ki_1 ?_
      refine pw_goto (pc' := 148) eX9_mayBegin_144 (by decide) ?_
      exact pw_zret' eX9_mayBegin_148 narrow_b1 h
def f_X9_mayBegin_97 (rec : Int32 → Int32 → Int32 → Int32 → Int32 → Int32 → HS → Option (Int32 × HS)) (x1 : Int32) (x2 : Int32) (x3 : Int32) (x4 : Int32) (x6 : Int32) (t0 : Int32) (σ : HS) : Option (Int32 × HS) :=
  (ldI (σ.1 78) 6 x6).bind fun v5 =>
  if v5 = x2 then
    rec x1 x2 x3 (x4 + 1) t0 (x6 + 1) σ
  else
    rec x1 x2 x3 (x4 + 0) t0 (x6 + 1) σ
set_option maxRecDepth 20000 in
theorem w_X9_mayBegin_97 {d : Nat} {p : Int32 × HS} {rec : Int32 → Int32 → Int32 → Int32 → Int32 → Int32 → HS → Option (Int32 × HS)} (hrec : ∀ (x1 : Int32) (x2 : Int32) (x3 : Int32) (x4 : Int32) (x5 : Int32) (x6 : Int32) (σ : HS), rec x1 x2 x3 x4 x5 x6 σ = some p → PW RX9 cX9_mayBegin 9 (hs_zM (d + 5) (some .boolean) (some (.int p.1), p.2)) 14 [some (.ref 67), some (.int x1), some (.int x2), some (.int x3), some (.int x4), some (.int x5), some (.int x6), none, none] [] σ) : ∀ (x1 : Int32) (x2 : Int32) (x3 : Int32) (x4 : Int32) (x6 : Int32) (t0 : Int32) (σ : HS), f_X9_mayBegin_97 rec x1 x2 x3 x4 x6 t0 σ = some p → PW RX9 cX9_mayBegin 9 (hs_zM (d + 5) (some .boolean) (some (.int p.1), p.2)) 97 [some (.ref 67), some (.int x1), some (.int x2), some (.int x3), some (.int x4), none, some (.int x6), none, none] [.int t0] σ := by
  intro x1 x2 x3 x4 x6 t0 σ h
  rw [f_X9_mayBegin_97] at h
  refine pw_istore eX9_mayBegin_97 (by decide) rfl rfl ?_
  refine pw_iload eX9_mayBegin_99 rfl ?_
  refine pw_aload_n eX9_mayBegin_101 rfl ?_
  refine pw_getR (r := 78) eX9_mayBegin_102 fl_X9_40 ob_67 rfl ?_
  refine pw_iload eX9_mayBegin_105 rfl ?_
  obtain ⟨v5, g, h⟩ := hs_bind h
  refine pw_iald' eX9_mayBegin_107 ai_78 g ?_
  refine pw_iload_n eX9_mayBegin_108 rfl ?_
  refine pw_icmp_ne (tgt := 116) eX9_mayBegin_109 (by decide) (fun c => ?_) (fun c => ?_)
  · have h := hs_ie c h
    refine pw_iconst eX9_mayBegin_116 ki_0 ?_
    refine pw_iadd eX9_mayBegin_117 ?_
    refine pw_istore eX9_mayBegin_118 (by decide) rfl rfl ?_
    refine pw_iinc eX9_mayBegin_120 (by decide) rfl ki_1 rfl rfl ?_
    refine pw_goto (pc' := 14) eX9_mayBegin_123 (by decide) ?_
    exact hrec x1 x2 x3 (x4 + 0) t0 (x6 + 1) σ h
  · have h := hs_it c h
    refine pw_iconst eX9_mayBegin_112 ki_1 ?_
    refine pw_goto (pc' := 117) eX9_mayBegin_113 (by decide) ?_
    refine pw_iadd eX9_mayBegin_117 ?_
    refine pw_istore eX9_mayBegin_118 (by decide) rfl rfl ?_
    refine pw_iinc eX9_mayBegin_120 (by decide) rfl ki_1 rfl rfl ?_
    refine pw_goto (pc' := 14) eX9_mayBegin_123 (by decide) ?_
    exact hrec x1 x2 x3 (x4 + 1) t0 (x6 + 1) σ h
def f_X9_mayBegin_92 (rec : Int32 → Int32 → Int32 → Int32 → Int32 → Int32 → HS → Option (Int32 × HS)) (x1 : Int32) (x2 : Int32) (x3 : Int32) (x4 : Int32) (x6 : Int32) (σ : HS) : Option (Int32 × HS) :=
  f_X9_mayBegin_97 rec x1 x2 x3 x4 x6 1 σ
set_option maxRecDepth 20000 in
theorem w_X9_mayBegin_92 {d : Nat} {p : Int32 × HS} {rec : Int32 → Int32 → Int32 → Int32 → Int32 → Int32 → HS → Option (Int32 × HS)} (hrec : ∀ (x1 : Int32) (x2 : Int32) (x3 : Int32) (x4 : Int32) (x5 : Int32) (x6 : Int32) (σ : HS), rec x1 x2 x3 x4 x5 x6 σ = some p → PW RX9 cX9_mayBegin 9 (hs_zM (d + 5) (some .boolean) (some (.int p.1), p.2)) 14 [some (.ref 67), some (.int x1), some (.int x2), some (.int x3), some (.int x4), some (.int x5), some (.int x6), none, none] [] σ) : ∀ (x1 : Int32) (x2 : Int32) (x3 : Int32) (x4 : Int32) (x6 : Int32) (σ : HS), f_X9_mayBegin_92 rec x1 x2 x3 x4 x6 σ = some p → PW RX9 cX9_mayBegin 9 (hs_zM (d + 5) (some .boolean) (some (.int p.1), p.2)) 92 [some (.ref 67), some (.int x1), some (.int x2), some (.int x3), some (.int x4), none, some (.int x6), none, none] [] σ := by
  intro x1 x2 x3 x4 x6 σ h
  rw [f_X9_mayBegin_92] at h
  refine pw_iconst eX9_mayBegin_92 ki_1 ?_
  refine pw_goto (pc' := 97) eX9_mayBegin_93 (by decide) ?_
  exact w_X9_mayBegin_97 hrec x1 x2 x3 x4 x6 1 σ h
def f_X9_mayBegin_96 (rec : Int32 → Int32 → Int32 → Int32 → Int32 → Int32 → HS → Option (Int32 × HS)) (x1 : Int32) (x2 : Int32) (x3 : Int32) (x4 : Int32) (x6 : Int32) (σ : HS) : Option (Int32 × HS) :=
  f_X9_mayBegin_97 rec x1 x2 x3 x4 x6 0 σ
set_option maxRecDepth 20000 in
theorem w_X9_mayBegin_96 {d : Nat} {p : Int32 × HS} {rec : Int32 → Int32 → Int32 → Int32 → Int32 → Int32 → HS → Option (Int32 × HS)} (hrec : ∀ (x1 : Int32) (x2 : Int32) (x3 : Int32) (x4 : Int32) (x5 : Int32) (x6 : Int32) (σ : HS), rec x1 x2 x3 x4 x5 x6 σ = some p → PW RX9 cX9_mayBegin 9 (hs_zM (d + 5) (some .boolean) (some (.int p.1), p.2)) 14 [some (.ref 67), some (.int x1), some (.int x2), some (.int x3), some (.int x4), some (.int x5), some (.int x6), none, none] [] σ) : ∀ (x1 : Int32) (x2 : Int32) (x3 : Int32) (x4 : Int32) (x6 : Int32) (σ : HS), f_X9_mayBegin_96 rec x1 x2 x3 x4 x6 σ = some p → PW RX9 cX9_mayBegin 9 (hs_zM (d + 5) (some .boolean) (some (.int p.1), p.2)) 96 [some (.ref 67), some (.int x1), some (.int x2), some (.int x3), some (.int x4), none, some (.int x6), none, none] [] σ := by
  intro x1 x2 x3 x4 x6 σ h
  rw [f_X9_mayBegin_96] at h
  refine pw_iconst eX9_mayBegin_96 ki_0 ?_
  exact w_X9_mayBegin_97 hrec x1 x2 x3 x4 x6 0 σ h
def f_X9_mayBegin_68 (rec : Int32 → Int32 → Int32 → Int32 → Int32 → Int32 → HS → Option (Int32 × HS)) (x1 : Int32) (x2 : Int32) (x3 : Int32) (x4 : Int32) (x6 : Int32) (x8 : Int32) (σ : HS) : Option (Int32 × HS) :=
  if x8 = 0 then
    f_X9_mayBegin_92 rec x1 x2 x3 x4 x6 σ
  else
    (ldI (σ.1 78) 6 x6).bind fun v6 =>
    (f_X9_behind x8 x1 σ).bind fun q7 =>
    if v6 < (x2 + q7.1) then
      f_X9_mayBegin_96 rec x1 x2 x3 x4 x6 q7.2
    else
      f_X9_mayBegin_92 rec x1 x2 x3 x4 x6 q7.2
set_option maxRecDepth 20000 in
theorem w_X9_mayBegin_68 {d : Nat} {p : Int32 × HS} {rec : Int32 → Int32 → Int32 → Int32 → Int32 → Int32 → HS → Option (Int32 × HS)} (hrec : ∀ (x1 : Int32) (x2 : Int32) (x3 : Int32) (x4 : Int32) (x5 : Int32) (x6 : Int32) (σ : HS), rec x1 x2 x3 x4 x5 x6 σ = some p → PW RX9 cX9_mayBegin 9 (hs_zM (d + 5) (some .boolean) (some (.int p.1), p.2)) 14 [some (.ref 67), some (.int x1), some (.int x2), some (.int x3), some (.int x4), some (.int x5), some (.int x6), none, none] [] σ) : ∀ (x1 : Int32) (x2 : Int32) (x3 : Int32) (x4 : Int32) (x6 : Int32) (x8 : Int32) (σ : HS), f_X9_mayBegin_68 rec x1 x2 x3 x4 x6 x8 σ = some p → PW RX9 cX9_mayBegin 9 (hs_zM (d + 5) (some .boolean) (some (.int p.1), p.2)) 68 [some (.ref 67), some (.int x1), some (.int x2), some (.int x3), some (.int x4), none, some (.int x6), none, some (.int x8)] [] σ := by
  intro x1 x2 x3 x4 x6 x8 σ h
  rw [f_X9_mayBegin_68] at h
  refine pw_iload eX9_mayBegin_68 rfl ?_
  refine pw_if_eq (tgt := 92) eX9_mayBegin_70 (by decide) (fun c => ?_) (fun c => ?_)
  · have h := hs_it c h
    exact pw_le (w_X9_mayBegin_92 hrec x1 x2 x3 x4 x6 σ h) ⟨rfl, rfl, rfl, rfl, rfl, rfl, trivial⟩
  · have h := hs_ie c h
    refine pw_aload_n eX9_mayBegin_73 rfl ?_
    refine pw_getR (r := 78) eX9_mayBegin_74 fl_X9_40 ob_67 rfl ?_
    refine pw_iload eX9_mayBegin_77 rfl ?_
    obtain ⟨v6, g, h⟩ := hs_bind h
    refine pw_iald' eX9_mayBegin_79 ai_78 g ?_
    refine pw_iload_n eX9_mayBegin_80 rfl ?_
    refine pw_aload_n eX9_mayBegin_81 rfl ?_
    refine pw_iload eX9_mayBegin_82 rfl ?_
    refine pw_iload_n eX9_mayBegin_84 rfl ?_
    obtain ⟨q7, g, h⟩ := hs_bind h
    refine pw_mV2i eX9_mayBegin_85 mv_X9_162 ob_67 (s_X9_behind g) (Nat.le_of_ble_eq_true rfl) ?_
    refine pw_iadd eX9_mayBegin_88 ?_
    refine pw_icmp_lt (tgt := 96) eX9_mayBegin_89 (by decide) (fun c => ?_) (fun c => ?_)
    · have h := hs_it c h
      exact pw_le (w_X9_mayBegin_96 hrec x1 x2 x3 x4 x6 q7.2 h) ⟨rfl, rfl, rfl, rfl, rfl, rfl, trivial⟩
    · have h := hs_ie c h
      exact pw_le (w_X9_mayBegin_92 hrec x1 x2 x3 x4 x6 q7.2 h) ⟨rfl, rfl, rfl, rfl, rfl, rfl, trivial⟩
def f_X9_mayBegin_14 : Nat → Int32 → Int32 → Int32 → Int32 → Int32 → Int32 → HS → Option (Int32 × HS)
  | 0, _, _, _, _, _, _, _ => none
  | n + 1, x1, x2, x3, x4, x5, x6, σ =>
    if x3 ≤ x6 then
      f_X9_mayBegin_126 x4 x5 σ
    else
      if x5 = 0 then
        f_X9_mayBegin_126 x4 x5 σ
      else
        (f_X9_counts x1 x6 σ).bind fun q3 =>
        (f_X9_counts x6 x1 q3.2).bind fun q4 =>
        if q3.1 = 0 then
          f_X9_mayBegin_68 (f_X9_mayBegin_14 n) x1 x2 x3 x4 x6 q4.1 q4.2
        else
          (ldI (q4.2.1 78) 6 x6).bind fun v8 =>
          (f_X9_behind q3.1 x6 q4.2).bind fun q9 =>
          if x2 < (v8 + q9.1) then
            f_X9_mayBegin_96 (f_X9_mayBegin_14 n) x1 x2 x3 x4 x6 q9.2
          else
            f_X9_mayBegin_68 (f_X9_mayBegin_14 n) x1 x2 x3 x4 x6 q4.1 q9.2
set_option maxRecDepth 20000 in
theorem w_X9_mayBegin_14 {d : Nat} {p : Int32 × HS} : ∀ (n : Nat) (x1 : Int32) (x2 : Int32) (x3 : Int32) (x4 : Int32) (x5 : Int32) (x6 : Int32) (σ : HS), f_X9_mayBegin_14 n x1 x2 x3 x4 x5 x6 σ = some p → PW RX9 cX9_mayBegin 9 (hs_zM (d + 5) (some .boolean) (some (.int p.1), p.2)) 14 [some (.ref 67), some (.int x1), some (.int x2), some (.int x3), some (.int x4), some (.int x5), some (.int x6), none, none] [] σ := by
  intro n
  induction n with
  | zero =>
    intro x1 x2 x3 x4 x5 x6 σ h
    rw [f_X9_mayBegin_14] at h
    cases h
  | succ n ih =>
    intro x1 x2 x3 x4 x5 x6 σ h
    rw [f_X9_mayBegin_14] at h
    refine pw_iload eX9_mayBegin_14 rfl ?_
    refine pw_iload_n eX9_mayBegin_16 rfl ?_
    refine pw_icmp_ge (tgt := 126) eX9_mayBegin_17 (by decide) (fun c => ?_) (fun c => ?_)
    · have h := hs_it c h
      exact pw_le (w_X9_mayBegin_126 x4 x5 σ h) ⟨rfl, rfl, rfl, trivial⟩
    · have h := hs_ie c h
      refine pw_iload eX9_mayBegin_20 rfl ?_
      refine pw_if_eq (tgt := 126) eX9_mayBegin_22 (by decide) (fun c => ?_) (fun c => ?_)
      · have h := hs_it c h
        exact pw_le (w_X9_mayBegin_126 x4 x5 σ h) ⟨rfl, rfl, rfl, trivial⟩
      · have h := hs_ie c h
        refine pw_aload_n eX9_mayBegin_25 rfl ?_
        refine pw_iload_n eX9_mayBegin_26 rfl ?_
        refine pw_iload eX9_mayBegin_27 rfl ?_
        obtain ⟨q3, g, h⟩ := hs_bind h
        refine pw_mV2i eX9_mayBegin_29 mv_X9_159 ob_67 (s_X9_counts g) (Nat.le_of_ble_eq_true rfl) ?_
        refine pw_istore eX9_mayBegin_32 (by decide) rfl rfl ?_
        refine pw_aload_n eX9_mayBegin_34 rfl ?_
        refine pw_iload eX9_mayBegin_35 rfl ?_
        refine pw_iload_n eX9_mayBegin_37 rfl ?_
        obtain ⟨q4, g, h⟩ := hs_bind h
        refine pw_mV2i eX9_mayBegin_38 mv_X9_159 ob_67 (s_X9_counts g) (Nat.le_of_ble_eq_true rfl) ?_
        refine pw_istore eX9_mayBegin_41 (by decide) rfl rfl ?_
        refine pw_iload eX9_mayBegin_43 rfl ?_
        refine pw_if_eq (tgt := 68) eX9_mayBegin_45 (by decide) (fun c => ?_) (fun c => ?_)
        · have h := hs_it c h
          exact pw_le (w_X9_mayBegin_68 ih x1 x2 x3 x4 x6 q4.1 q4.2 h) ⟨rfl, rfl, rfl, rfl, rfl, rfl, rfl, trivial⟩
        · have h := hs_ie c h
          refine pw_iload_n eX9_mayBegin_48 rfl ?_
          refine pw_aload_n eX9_mayBegin_49 rfl ?_
          refine pw_getR (r := 78) eX9_mayBegin_50 fl_X9_40 ob_67 rfl ?_
          refine pw_iload eX9_mayBegin_53 rfl ?_
          obtain ⟨v8, g, h⟩ := hs_bind h
          refine pw_iald' eX9_mayBegin_55 ai_78 g ?_
          refine pw_aload_n eX9_mayBegin_56 rfl ?_
          refine pw_iload eX9_mayBegin_57 rfl ?_
          refine pw_iload eX9_mayBegin_59 rfl ?_
          obtain ⟨q9, g, h⟩ := hs_bind h
          refine pw_mV2i eX9_mayBegin_61 mv_X9_162 ob_67 (s_X9_behind g) (Nat.le_of_ble_eq_true rfl) ?_
          refine pw_iadd eX9_mayBegin_64 ?_
          refine pw_icmp_lt (tgt := 96) eX9_mayBegin_65 (by decide) (fun c => ?_) (fun c => ?_)
          · have h := hs_it c h
            exact pw_le (w_X9_mayBegin_96 ih x1 x2 x3 x4 x6 q9.2 h) ⟨rfl, rfl, rfl, rfl, rfl, rfl, trivial⟩
          · have h := hs_ie c h
            exact pw_le (w_X9_mayBegin_68 ih x1 x2 x3 x4 x6 q4.1 q9.2 h) ⟨rfl, rfl, rfl, rfl, rfl, rfl, rfl, trivial⟩
def f_X9_mayBegin (x1 : Int32) (x2 : Int32) (x3 : Int32) (σ : HS) : Option (Int32 × HS) :=
  (f_X9_isFree x1 x2 σ).bind fun q1 =>
  f_X9_mayBegin_14 FU x1 x2 x3 1 q1.1 0 q1.2
set_option maxRecDepth 20000 in
theorem s_X9_mayBegin {d : Nat} {x1 : Int32} {x2 : Int32} {x3 : Int32} {σ : HS} {p : Int32 × HS} (h : f_X9_mayBegin x1 x2 x3 σ = some p) : hs_Spec (d + 5) yX9_mayBegin cX9_mayBegin 9 (some .boolean) [.ref 67, .int x1, .int x2, .int x3] σ (some (.int p.1), p.2) := by
  refine hs_spec' (by decide +kernel) rfl (Nat.le_of_ble_eq_true rfl) ?_
  show PW RX9 cX9_mayBegin 9 (hs_zM (d + 5) (some .boolean) (some (.int p.1), p.2)) 0 [some (.ref 67), some (.int x1), some (.int x2), some (.int x3), none, none, none, none, none] [] σ
  rw [f_X9_mayBegin] at h
  refine pw_iconst eX9_mayBegin_0 ki_1 ?_
  refine pw_istore eX9_mayBegin_1 (by decide) rfl rfl ?_
  refine pw_aload_n eX9_mayBegin_3 rfl ?_
  refine pw_iload_n eX9_mayBegin_4 rfl ?_
  refine pw_iload_n eX9_mayBegin_5 rfl ?_
  obtain ⟨q1, g, h⟩ := hs_bind h
  refine pw_mV2i eX9_mayBegin_6 mv_X9_175 ob_67 (s_X9_isFree g) (Nat.le_of_ble_eq_true rfl) ?_
  refine pw_istore eX9_mayBegin_9 (by decide) rfl rfl ?_
  refine pw_iconst eX9_mayBegin_11 ki_0 ?_
  refine pw_istore eX9_mayBegin_12 (by decide) rfl rfl ?_
  exact w_X9_mayBegin_14 FU x1 x2 x3 1 q1.1 0 q1.2 h

def f_X9_isFound_150 (x2 : Int32) (x3 : Int32) (σ : HS) : Option (Int32 × HS) :=
  if x3 = x2 then
    some (1, σ)
  else
    some (0, σ)
set_option maxRecDepth 20000 in
theorem w_X9_isFound_150 {d : Nat} {p : Int32 × HS} : ∀ (x2 : Int32) (x3 : Int32) (σ : HS), f_X9_isFound_150 x2 x3 σ = some p → PW RX9 cX9_isFound 5 (hs_zM (d + 6) (some .boolean) (some (.int p.1), p.2)) 150 [none, none, some (.int x2), some (.int x3), none] [] σ := by
  intro x2 x3 σ h
  rw [f_X9_isFound_150] at h
  refine pw_iload_n eX9_isFound_150 rfl ?_
  refine pw_iload_n eX9_isFound_151 rfl ?_
  refine pw_icmp_ne (tgt := 159) eX9_isFound_152 (by decide) (fun c => ?_) (fun c => ?_)
  · have h := hs_ie c h
    refine pw_iconst eX9_isFound_159 ki_0 ?_
    exact pw_zret' eX9_isFound_160 narrow_b0 h
  · have h := hs_it c h
    refine pw_iconst eX9_isFound_155 ki_1 ?_
    refine pw_goto (pc' := 160) eX9_isFound_156 (by decide) ?_
    exact pw_zret' eX9_isFound_160 narrow_b1 h
def f_X9_isFound_73 (k : Int32 → Int32 → Int32 → Int32 → HS → Option (Int32 × HS)) : Nat → Int32 → Int32 → Int32 → Int32 → HS → Option (Int32 × HS)
  | 0, _, _, _, _, _ => none
  | n + 1, x1, x2, x3, x4, σ =>
    (ldI (σ.1 76) 6 x3).bind fun v6 =>
    if (x1 - v6) < x4 then
      k x1 x2 x3 x4 σ
    else
      (f_X9_mayBegin x3 x4 x3 σ).bind fun q7 =>
      if q7.1 = 0 then
        f_X9_isFound_73 k n x1 x2 x3 (x4 + 1) q7.2
      else
        k x1 x2 x3 x4 q7.2
set_option maxRecDepth 20000 in
theorem w_X9_isFound_73 {d : Nat} {p : Int32 × HS} {k : Int32 → Int32 → Int32 → Int32 → HS → Option (Int32 × HS)} (hk : ∀ (x1 : Int32) (x2 : Int32) (x3 : Int32) (x4 : Int32) (σ : HS), k x1 x2 x3 x4 σ = some p → PW RX9 cX9_isFound 5 (hs_zM (d + 6) (some .boolean) (some (.int p.1), p.2)) 103 [some (.ref 67), some (.int x1), some (.int x2), some (.int x3), some (.int x4)] [] σ) : ∀ (n : Nat) (x1 : Int32) (x2 : Int32) (x3 : Int32) (x4 : Int32) (σ : HS), f_X9_isFound_73 k n x1 x2 x3 x4 σ = some p → PW RX9 cX9_isFound 5 (hs_zM (d + 6) (some .boolean) (some (.int p.1), p.2)) 73 [some (.ref 67), some (.int x1), some (.int x2), some (.int x3), some (.int x4)] [] σ := by
  intro n
  induction n with
  | zero =>
    intro x1 x2 x3 x4 σ h
    rw [f_X9_isFound_73] at h
    cases h
  | succ n ih =>
    intro x1 x2 x3 x4 σ h
    rw [f_X9_isFound_73] at h
    refine pw_iload eX9_isFound_73 rfl ?_
    refine pw_iload_n eX9_isFound_75 rfl ?_
    refine pw_aload_n eX9_isFound_76 rfl ?_
    refine pw_getR (r := 76) eX9_isFound_77 fl_X9_34 ob_67 rfl ?_
    refine pw_iload_n eX9_isFound_80 rfl ?_
    obtain ⟨v6, g, h⟩ := hs_bind h
    refine pw_iald' eX9_isFound_81 ai_76 g ?_
    refine pw_isub eX9_isFound_82 ?_
    refine pw_icmp_gt (tgt := 103) eX9_isFound_83 (by decide) (fun c => ?_) (fun c => ?_)
    · have h := hs_it c h
      exact hk x1 x2 x3 x4 σ h
    · have h := hs_ie c h
      refine pw_aload_n eX9_isFound_86 rfl ?_
      refine pw_iload_n eX9_isFound_87 rfl ?_
      refine pw_iload eX9_isFound_88 rfl ?_
      refine pw_iload_n eX9_isFound_90 rfl ?_
      obtain ⟨q7, g, h⟩ := hs_bind h
      refine pw_mV3i eX9_isFound_91 mv_X9_185 ob_67 (s_X9_mayBegin g) (Nat.le_of_ble_eq_true rfl) ?_
      refine pw_if_ne (tgt := 103) eX9_isFound_94 (by decide) (fun c => ?_) (fun c => ?_)
      · have h := hs_ie c h
        exact hk x1 x2 x3 x4 q7.2 h
      · have h := hs_it c h
        refine pw_iinc eX9_isFound_97 (by decide) rfl ki_1 rfl rfl ?_
        refine pw_goto (pc' := 73) eX9_isFound_100 (by decide) ?_
        exact ih x1 x2 x3 (x4 + 1) q7.2 h
def f_X9_isFound_103 (rec : Int32 → Int32 → Int32 → HS → Option (Int32 × HS)) (x1 : Int32) (x2 : Int32) (x3 : Int32) (x4 : Int32) (σ : HS) : Option (Int32 × HS) :=
  (ldI (σ.1 76) 6 x3).bind fun v13 =>
  if (x1 - v13) < x4 then
    (stI σ 78 6 x3 (-1)).bind fun σ14 =>
    rec x1 x2 (x3 + (-1)) σ14
  else
    (stI σ 78 6 x3 x4).bind fun σ15 =>
    (f_X9_exchange x3 x4 σ15).bind fun σ16 =>
    rec x1 x2 (x3 + 1) σ16
set_option maxRecDepth 20000 in
theorem w_X9_isFound_103 {d : Nat} {p : Int32 × HS} {rec : Int32 → Int32 → Int32 → HS → Option (Int32 × HS)} (hrec : ∀ (x1 : Int32) (x2 : Int32) (x3 : Int32) (σ : HS), rec x1 x2 x3 σ = some p → PW RX9 cX9_isFound 5 (hs_zM (d + 6) (some .boolean) (some (.int p.1), p.2)) 14 [some (.ref 67), some (.int x1), some (.int x2), some (.int x3), none] [] σ) : ∀ (x1 : Int32) (x2 : Int32) (x3 : Int32) (x4 : Int32) (σ : HS), f_X9_isFound_103 rec x1 x2 x3 x4 σ = some p → PW RX9 cX9_isFound 5 (hs_zM (d + 6) (some .boolean) (some (.int p.1), p.2)) 103 [some (.ref 67), some (.int x1), some (.int x2), some (.int x3), some (.int x4)] [] σ := by
  intro x1 x2 x3 x4 σ h
  rw [f_X9_isFound_103] at h
  refine pw_iload eX9_isFound_103 rfl ?_
  refine pw_iload_n eX9_isFound_105 rfl ?_
  refine pw_aload_n eX9_isFound_106 rfl ?_
  refine pw_getR (r := 76) eX9_isFound_107 fl_X9_34 ob_67 rfl ?_
  refine pw_iload_n eX9_isFound_110 rfl ?_
  obtain ⟨v13, g, h⟩ := hs_bind h
  refine pw_iald' eX9_isFound_111 ai_76 g ?_
  refine pw_isub eX9_isFound_112 ?_
  refine pw_icmp_gt (tgt := 137) eX9_isFound_113 (by decide) (fun c => ?_) (fun c => ?_)
  · have h := hs_it c h
    refine pw_aload_n eX9_isFound_137 rfl ?_
    refine pw_getR (r := 78) eX9_isFound_138 fl_X9_40 ob_67 rfl ?_
    refine pw_iload_n eX9_isFound_141 rfl ?_
    refine pw_iconst eX9_isFound_142 ki_m1 ?_
    obtain ⟨σ14, g, h⟩ := hs_bind h
    refine pw_iast' eX9_isFound_143 ai_78 g ?_
    refine pw_iinc eX9_isFound_144 (by decide) rfl ki_m1 rfl rfl ?_
    refine pw_goto (pc' := 14) eX9_isFound_147 (by decide) ?_
    exact pw_le (hrec x1 x2 (x3 + (-1)) σ14 h) ⟨rfl, rfl, rfl, rfl, trivial⟩
  · have h := hs_ie c h
    refine pw_aload_n eX9_isFound_116 rfl ?_
    refine pw_getR (r := 78) eX9_isFound_117 fl_X9_40 ob_67 rfl ?_
    refine pw_iload_n eX9_isFound_120 rfl ?_
    refine pw_iload eX9_isFound_121 rfl ?_
    obtain ⟨σ15, g, h⟩ := hs_bind h
    refine pw_iast' eX9_isFound_123 ai_78 g ?_
    refine pw_aload_n eX9_isFound_124 rfl ?_
    refine pw_iload_n eX9_isFound_125 rfl ?_
    refine pw_iload eX9_isFound_126 rfl ?_
    obtain ⟨σ16, g, h⟩ := hs_bind h
    refine pw_mV2v eX9_isFound_128 mv_X9_181 ob_67 (s_X9_exchange g) (Nat.le_of_ble_eq_true rfl) ?_
    refine pw_iinc eX9_isFound_131 (by decide) rfl ki_1 rfl rfl ?_
    refine pw_goto (pc' := 147) eX9_isFound_134 (by decide) ?_
    refine pw_goto (pc' := 14) eX9_isFound_147 (by decide) ?_
    exact pw_le (hrec x1 x2 (x3 + 1) σ16 h) ⟨rfl, rfl, rfl, rfl, trivial⟩
def f_X9_isFound_44 (rec : Int32 → Int32 → Int32 → HS → Option (Int32 × HS)) (x1 : Int32) (x2 : Int32) (x3 : Int32) (σ : HS) : Option (Int32 × HS) :=
  (ldI (σ.1 78) 6 x3).bind fun v4 =>
  if v4 = (-1) then
    (ldI (σ.1 77) 6 x3).bind fun v17 =>
    f_X9_isFound_73 (fun e18 e19 e20 e21 σ22 =>
      f_X9_isFound_103 rec e18 e19 e20 e21 σ22) FU x1 x2 x3 v17 σ
  else
    (ldI (σ.1 78) 6 x3).bind fun v5 =>
    f_X9_isFound_73 (fun e8 e9 e10 e11 σ12 =>
      f_X9_isFound_103 rec e8 e9 e10 e11 σ12) FU x1 x2 x3 (v5 + 1) σ
set_option maxRecDepth 20000 in
theorem w_X9_isFound_44 {d : Nat} {p : Int32 × HS} {rec : Int32 → Int32 → Int32 → HS → Option (Int32 × HS)} (hrec : ∀ (x1 : Int32) (x2 : Int32) (x3 : Int32) (σ : HS), rec x1 x2 x3 σ = some p → PW RX9 cX9_isFound 5 (hs_zM (d + 6) (some .boolean) (some (.int p.1), p.2)) 14 [some (.ref 67), some (.int x1), some (.int x2), some (.int x3), none] [] σ) : ∀ (x1 : Int32) (x2 : Int32) (x3 : Int32) (σ : HS), f_X9_isFound_44 rec x1 x2 x3 σ = some p → PW RX9 cX9_isFound 5 (hs_zM (d + 6) (some .boolean) (some (.int p.1), p.2)) 44 [some (.ref 67), some (.int x1), some (.int x2), some (.int x3), none] [] σ := by
  intro x1 x2 x3 σ h
  rw [f_X9_isFound_44] at h
  refine pw_aload_n eX9_isFound_44 rfl ?_
  refine pw_getR (r := 78) eX9_isFound_45 fl_X9_40 ob_67 rfl ?_
  refine pw_iload_n eX9_isFound_48 rfl ?_
  obtain ⟨v4, g, h⟩ := hs_bind h
  refine pw_iald' eX9_isFound_49 ai_78 g ?_
  refine pw_iconst eX9_isFound_50 ki_m1 ?_
  refine pw_icmp_ne (tgt := 63) eX9_isFound_51 (by decide) (fun c => ?_) (fun c => ?_)
  · have h := hs_ie c h
    refine pw_aload_n eX9_isFound_63 rfl ?_
    refine pw_getR (r := 78) eX9_isFound_64 fl_X9_40 ob_67 rfl ?_
    refine pw_iload_n eX9_isFound_67 rfl ?_
    obtain ⟨v5, g, h⟩ := hs_bind h
    refine pw_iald' eX9_isFound_68 ai_78 g ?_
    refine pw_iconst eX9_isFound_69 ki_1 ?_
    refine pw_iadd eX9_isFound_70 ?_
    refine pw_istore eX9_isFound_71 (by decide) rfl rfl ?_
    refine w_X9_isFound_73 (fun e8 e9 e10 e11 σ12 h => ?_) FU x1 x2 x3 (v5 + 1) σ h
    exact w_X9_isFound_103 hrec e8 e9 e10 e11 σ12 h
  · have h := hs_it c h
    refine pw_aload_n eX9_isFound_54 rfl ?_
    refine pw_getR (r := 77) eX9_isFound_55 fl_X9_37 ob_67 rfl ?_
    refine pw_iload_n eX9_isFound_58 rfl ?_
    obtain ⟨v17, g, h⟩ := hs_bind h
    refine pw_iald' eX9_isFound_59 ai_77 g ?_
    refine pw_goto (pc' := 71) eX9_isFound_60 (by decide) ?_
    refine pw_istore eX9_isFound_71 (by decide) rfl rfl ?_
    refine w_X9_isFound_73 (fun e18 e19 e20 e21 σ22 h => ?_) FU x1 x2 x3 v17 σ h
    exact w_X9_isFound_103 hrec e18 e19 e20 e21 σ22 h
def f_X9_isFound_14 : Nat → Int32 → Int32 → Int32 → HS → Option (Int32 × HS)
  | 0, _, _, _, _ => none
  | n + 1, x1, x2, x3, σ =>
    if x3 < 0 then
      f_X9_isFound_150 x2 x3 σ
    else
      if x2 ≤ x3 then
        f_X9_isFound_150 x2 x3 σ
      else
        (ldI (σ.1 78) 6 x3).bind fun v3 =>
        if v3 = (-1) then
          f_X9_isFound_44 (f_X9_isFound_14 n) x1 x2 x3 σ
        else
          (ldI (σ.1 78) 6 x3).bind fun v23 =>
          (f_X9_exchange x3 v23 σ).bind fun σ24 =>
          f_X9_isFound_44 (f_X9_isFound_14 n) x1 x2 x3 σ24
set_option maxRecDepth 20000 in
theorem w_X9_isFound_14 {d : Nat} {p : Int32 × HS} : ∀ (n : Nat) (x1 : Int32) (x2 : Int32) (x3 : Int32) (σ : HS), f_X9_isFound_14 n x1 x2 x3 σ = some p → PW RX9 cX9_isFound 5 (hs_zM (d + 6) (some .boolean) (some (.int p.1), p.2)) 14 [some (.ref 67), some (.int x1), some (.int x2), some (.int x3), none] [] σ := by
  intro n
  induction n with
  | zero =>
    intro x1 x2 x3 σ h
    rw [f_X9_isFound_14] at h
    cases h
  | succ n ih =>
    intro x1 x2 x3 σ h
    rw [f_X9_isFound_14] at h
    refine pw_iload_n eX9_isFound_14 rfl ?_
    refine pw_if_lt (tgt := 150) eX9_isFound_15 (by decide) (fun c => ?_) (fun c => ?_)
    · have h := hs_it c h
      exact pw_le (w_X9_isFound_150 x2 x3 σ h) ⟨rfl, rfl, trivial⟩
    · have h := hs_ie c h
      refine pw_iload_n eX9_isFound_18 rfl ?_
      refine pw_iload_n eX9_isFound_19 rfl ?_
      refine pw_icmp_ge (tgt := 150) eX9_isFound_20 (by decide) (fun c => ?_) (fun c => ?_)
      · have h := hs_it c h
        exact pw_le (w_X9_isFound_150 x2 x3 σ h) ⟨rfl, rfl, trivial⟩
      · have h := hs_ie c h
        refine pw_aload_n eX9_isFound_23 rfl ?_
        refine pw_getR (r := 78) eX9_isFound_24 fl_X9_40 ob_67 rfl ?_
        refine pw_iload_n eX9_isFound_27 rfl ?_
        obtain ⟨v3, g, h⟩ := hs_bind h
        refine pw_iald' eX9_isFound_28 ai_78 g ?_
        refine pw_iconst eX9_isFound_29 ki_m1 ?_
        refine pw_icmp_eq (tgt := 44) eX9_isFound_30 (by decide) (fun c => ?_) (fun c => ?_)
        · have h := hs_it c h
          exact w_X9_isFound_44 ih x1 x2 x3 σ h
        · have h := hs_ie c h
          refine pw_aload_n eX9_isFound_33 rfl ?_
          refine pw_iload_n eX9_isFound_34 rfl ?_
          refine pw_aload_n eX9_isFound_35 rfl ?_
          refine pw_getR (r := 78) eX9_isFound_36 fl_X9_40 ob_67 rfl ?_
          refine pw_iload_n eX9_isFound_39 rfl ?_
          obtain ⟨v23, g, h⟩ := hs_bind h
          refine pw_iald' eX9_isFound_40 ai_78 g ?_
          obtain ⟨σ24, g, h⟩ := hs_bind h
          refine pw_mV2v eX9_isFound_41 mv_X9_181 ob_67 (s_X9_exchange g) (Nat.le_of_ble_eq_true rfl) ?_
          exact w_X9_isFound_44 ih x1 x2 x3 σ24 h
def f_X9_isFound (x1 : Int32) (σ : HS) : Option (Int32 × HS) :=
  (ldI (σ.1 68) 66 23).bind fun v1 =>
  (f_X9_clearAll σ).bind fun σ2 =>
  f_X9_isFound_14 FU x1 v1 0 σ2
set_option maxRecDepth 20000 in
theorem s_X9_isFound {d : Nat} {x1 : Int32} {σ : HS} {p : Int32 × HS} (h : f_X9_isFound x1 σ = some p) : hs_Spec (d + 6) yX9_isFound cX9_isFound 5 (some .boolean) [.ref 67, .int x1] σ (some (.int p.1), p.2) := by
  refine hs_spec' (by decide +kernel) rfl (Nat.le_of_ble_eq_true rfl) ?_
  show PW RX9 cX9_isFound 5 (hs_zM (d + 6) (some .boolean) (some (.int p.1), p.2)) 0 [some (.ref 67), some (.int x1), none, none, none] [] σ
  rw [f_X9_isFound] at h
  refine pw_aload_n eX9_isFound_0 rfl ?_
  refine pw_getR (r := 68) eX9_isFound_1 fl_X9_7 ob_67 rfl ?_
  refine pw_bipush eX9_isFound_4 kb_23 ?_
  obtain ⟨v1, g, h⟩ := hs_bind h
  refine pw_iald' eX9_isFound_6 ai_68 g ?_
  refine pw_istore_n eX9_isFound_7 rfl (by decide) rfl rfl ?_
  refine pw_iconst eX9_isFound_8 ki_0 ?_
  refine pw_istore_n eX9_isFound_9 rfl (by decide) rfl rfl ?_
  refine pw_aload_n eX9_isFound_10 rfl ?_
  obtain ⟨σ2, g, h⟩ := hs_bind h
  refine pw_mV0v eX9_isFound_11 mv_X9_178 ob_67 (s_X9_clearAll g) (Nat.le_of_ble_eq_true rfl) ?_
  exact w_X9_isFound_14 FU x1 v1 0 σ2 h

def f_X9_lengthOf_4 : Nat → Int32 → Int32 → HS → Option (Int32 × HS)
  | 0, _, _, _ => none
  | n + 1, x1, x2, σ =>
    (ldI (σ.1 68) 66 23).bind fun v1 =>
    if v1 ≤ x2 then
      some (x1, σ)
    else
      (ldI (σ.1 78) 6 x2).bind fun v2 =>
      (f_X9_span x2 σ).bind fun q3 =>
      if (v2 + q3.1) ≤ x1 then
        f_X9_lengthOf_4 n x1 (x2 + 1) q3.2
      else
        (ldI (q3.2.1 78) 6 x2).bind fun v4 =>
        (f_X9_span x2 q3.2).bind fun q5 =>
        f_X9_lengthOf_4 n (v4 + q5.1) (x2 + 1) q5.2
set_option maxRecDepth 20000 in
theorem w_X9_lengthOf_4 {d : Nat} {p : Int32 × HS} : ∀ (n : Nat) (x1 : Int32) (x2 : Int32) (σ : HS), f_X9_lengthOf_4 n x1 x2 σ = some p → PW RX9 cX9_lengthOf 3 (hs_zM (d + 5) (some .int) (some (.int p.1), p.2)) 4 [some (.ref 67), some (.int x1), some (.int x2)] [] σ := by
  intro n
  induction n with
  | zero =>
    intro x1 x2 σ h
    rw [f_X9_lengthOf_4] at h
    cases h
  | succ n ih =>
    intro x1 x2 σ h
    rw [f_X9_lengthOf_4] at h
    refine pw_iload_n eX9_lengthOf_4 rfl ?_
    refine pw_aload_n eX9_lengthOf_5 rfl ?_
    refine pw_getR (r := 68) eX9_lengthOf_6 fl_X9_7 ob_67 rfl ?_
    refine pw_bipush eX9_lengthOf_9 kb_23 ?_
    obtain ⟨v1, g, h⟩ := hs_bind h
    refine pw_iald' eX9_lengthOf_11 ai_68 g ?_
    refine pw_icmp_ge (tgt := 54) eX9_lengthOf_12 (by decide) (fun c => ?_) (fun c => ?_)
    · have h := hs_it c h
      refine pw_iload_n eX9_lengthOf_54 rfl ?_
      exact pw_iret' eX9_lengthOf_55 h
    · have h := hs_ie c h
      refine pw_aload_n eX9_lengthOf_15 rfl ?_
      refine pw_getR (r := 78) eX9_lengthOf_16 fl_X9_40 ob_67 rfl ?_
      refine pw_iload_n eX9_lengthOf_19 rfl ?_
      obtain ⟨v2, g, h⟩ := hs_bind h
      refine pw_iald' eX9_lengthOf_20 ai_78 g ?_
      refine pw_aload_n eX9_lengthOf_21 rfl ?_
      refine pw_iload_n eX9_lengthOf_22 rfl ?_
      obtain ⟨q3, g, h⟩ := hs_bind h
      refine pw_mV1i eX9_lengthOf_23 mv_X9_156 ob_67 (s_X9_span g) (Nat.le_of_ble_eq_true rfl) ?_
      refine pw_iadd eX9_lengthOf_26 ?_
      refine pw_iload_n eX9_lengthOf_27 rfl ?_
      refine pw_icmp_le (tgt := 46) eX9_lengthOf_28 (by decide) (fun c => ?_) (fun c => ?_)
      · have h := hs_it c h
        refine pw_iload_n eX9_lengthOf_46 rfl ?_
        refine pw_istore_n eX9_lengthOf_47 rfl (by decide) rfl rfl ?_
        refine pw_iinc eX9_lengthOf_48 (by decide) rfl ki_1 rfl rfl ?_
        refine pw_goto (pc' := 4) eX9_lengthOf_51 (by decide) ?_
        exact ih x1 (x2 + 1) q3.2 h
      · have h := hs_ie c h
        refine pw_aload_n eX9_lengthOf_31 rfl ?_
        refine pw_getR (r := 78) eX9_lengthOf_32 fl_X9_40 ob_67 rfl ?_
        refine pw_iload_n eX9_lengthOf_35 rfl ?_
        obtain ⟨v4, g, h⟩ := hs_bind h
        refine pw_iald' eX9_lengthOf_36 ai_78 g ?_
        refine pw_aload_n eX9_lengthOf_37 rfl ?_
        refine pw_iload_n eX9_lengthOf_38 rfl ?_
        obtain ⟨q5, g, h⟩ := hs_bind h
        refine pw_mV1i eX9_lengthOf_39 mv_X9_156 ob_67 (s_X9_span g) (Nat.le_of_ble_eq_true rfl) ?_
        refine pw_iadd eX9_lengthOf_42 ?_
        refine pw_goto (pc' := 47) eX9_lengthOf_43 (by decide) ?_
        refine pw_istore_n eX9_lengthOf_47 rfl (by decide) rfl rfl ?_
        refine pw_iinc eX9_lengthOf_48 (by decide) rfl ki_1 rfl rfl ?_
        refine pw_goto (pc' := 4) eX9_lengthOf_51 (by decide) ?_
        exact ih (v4 + q5.1) (x2 + 1) q5.2 h
def f_X9_lengthOf (σ : HS) : Option (Int32 × HS) :=
  f_X9_lengthOf_4 FU 0 0 σ
set_option maxRecDepth 20000 in
theorem s_X9_lengthOf {d : Nat} {σ : HS} {p : Int32 × HS} (h : f_X9_lengthOf σ = some p) : hs_Spec (d + 5) yX9_lengthOf cX9_lengthOf 3 (some .int) [.ref 67] σ (some (.int p.1), p.2) := by
  refine hs_spec' (by decide +kernel) rfl (Nat.le_of_ble_eq_true rfl) ?_
  show PW RX9 cX9_lengthOf 3 (hs_zM (d + 5) (some .int) (some (.int p.1), p.2)) 0 [some (.ref 67), none, none] [] σ
  rw [f_X9_lengthOf] at h
  refine pw_iconst eX9_lengthOf_0 ki_0 ?_
  refine pw_istore_n eX9_lengthOf_1 rfl (by decide) rfl rfl ?_
  refine pw_iconst eX9_lengthOf_2 ki_0 ?_
  refine pw_istore_n eX9_lengthOf_3 rfl (by decide) rfl rfl ?_
  exact w_X9_lengthOf_4 FU 0 0 σ h

def f_X9_findBest_5 : Nat → Int32 → HS → Option (Int32 × HS)
  | 0, _, _ => none
  | n + 1, x1, σ =>
    (f_X9_isFound x1 σ).bind fun q2 =>
    if q2.1 = 0 then
      f_X9_findBest_5 n (x1 + 1) q2.2
    else
      (f_X9_lengthOf q2.2).bind fun q3 =>
      some (q3.1, q3.2)
set_option maxRecDepth 20000 in
theorem w_X9_findBest_5 {d : Nat} {p : Int32 × HS} : ∀ (n : Nat) (x1 : Int32) (σ : HS), f_X9_findBest_5 n x1 σ = some p → PW RX9 cX9_findBest 2 (hs_zM (d + 7) (some .int) (some (.int p.1), p.2)) 5 [some (.ref 67), some (.int x1)] [] σ := by
  intro n
  induction n with
  | zero =>
    intro x1 σ h
    rw [f_X9_findBest_5] at h
    cases h
  | succ n ih =>
    intro x1 σ h
    rw [f_X9_findBest_5] at h
    refine pw_aload_n eX9_findBest_5 rfl ?_
    refine pw_iload_n eX9_findBest_6 rfl ?_
    obtain ⟨q2, g, h⟩ := hs_bind h
    refine pw_mV1i eX9_findBest_7 mv_X9_188 ob_67 (s_X9_isFound g) (Nat.le_of_ble_eq_true rfl) ?_
    refine pw_if_ne (tgt := 19) eX9_findBest_10 (by decide) (fun c => ?_) (fun c => ?_)
    · have h := hs_ie c h
      refine pw_aload_n eX9_findBest_19 rfl ?_
      obtain ⟨q3, g, h⟩ := hs_bind h
      refine pw_mV0i eX9_findBest_20 mv_X9_191 ob_67 (s_X9_lengthOf g) (Nat.le_of_ble_eq_true rfl) ?_
      exact pw_iret' eX9_findBest_23 h
    · have h := hs_it c h
      refine pw_iinc eX9_findBest_13 (by decide) rfl ki_1 rfl rfl ?_
      refine pw_goto (pc' := 5) eX9_findBest_16 (by decide) ?_
      exact ih (x1 + 1) q2.2 h
def f_X9_findBest (σ : HS) : Option (Int32 × HS) :=
  (f_X9_boundOf σ).bind fun q1 =>
  f_X9_findBest_5 FU q1.1 q1.2
set_option maxRecDepth 20000 in
theorem s_X9_findBest {d : Nat} {σ : HS} {p : Int32 × HS} (h : f_X9_findBest σ = some p) : hs_Spec (d + 7) yX9_findBest cX9_findBest 2 (some .int) [.ref 67] σ (some (.int p.1), p.2) := by
  refine hs_spec' (by decide +kernel) rfl (Nat.le_of_ble_eq_true rfl) ?_
  show PW RX9 cX9_findBest 2 (hs_zM (d + 7) (some .int) (some (.int p.1), p.2)) 0 [some (.ref 67), none] [] σ
  rw [f_X9_findBest] at h
  refine pw_aload_n eX9_findBest_0 rfl ?_
  obtain ⟨q1, g, h⟩ := hs_bind h
  refine pw_mV0i eX9_findBest_1 mv_X9_171 ob_67 (s_X9_boundOf g) (Nat.le_of_ble_eq_true rfl) ?_
  refine pw_istore_n eX9_findBest_4 rfl (by decide) rfl rfl ?_
  exact w_X9_findBest_5 FU q1.1 q1.2 h

def f_X9_best_20 (x1 : Int32) (σ : HS) : Option (Int32 × HS) :=
  (f_X9_findBest σ).bind fun q1 =>
  if x1 = (-1) then
    some (q1.1, q1.2)
  else
    (ldI (q1.2.1 78) 6 x1).bind fun v2 =>
    some (v2, q1.2)
set_option maxRecDepth 20000 in
theorem w_X9_best_20 {d : Nat} {p : Int32 × HS} : ∀ (x1 : Int32) (σ : HS), f_X9_best_20 x1 σ = some p → PW RX9 cX9_best 3 (hs_zM (d + 8) (some .int) (some (.int p.1), p.2)) 20 [some (.ref 67), some (.int x1), none] [] σ := by
  intro x1 σ h
  rw [f_X9_best_20] at h
  refine pw_aload_n eX9_best_20 rfl ?_
  obtain ⟨q1, g, h⟩ := hs_bind h
  refine pw_mV0i eX9_best_21 mv_X9_194 ob_67 (s_X9_findBest g) (Nat.le_of_ble_eq_true rfl) ?_
  refine pw_istore_n eX9_best_24 rfl (by decide) rfl rfl ?_
  refine pw_iload_n eX9_best_25 rfl ?_
  refine pw_iconst eX9_best_26 ki_m1 ?_
  refine pw_icmp_ne (tgt := 34) eX9_best_27 (by decide) (fun c => ?_) (fun c => ?_)
  · have h := hs_ie c h
    refine pw_aload_n eX9_best_34 rfl ?_
    refine pw_getR (r := 78) eX9_best_35 fl_X9_40 ob_67 rfl ?_
    refine pw_iload_n eX9_best_38 rfl ?_
    obtain ⟨v2, g, h⟩ := hs_bind h
    refine pw_iald' eX9_best_39 ai_78 g ?_
    exact pw_iret' eX9_best_40 h
  · have h := hs_it c h
    refine pw_iload_n eX9_best_30 rfl ?_
    refine pw_goto (pc' := 40) eX9_best_31 (by decide) ?_
    exact pw_iret' eX9_best_40 h
def f_X9_best (x1 : Int32) (σ : HS) : Option (Int32 × HS) :=
  if x1 = (-1) then
    f_X9_best_20 x1 σ
  else
    (f_X9_isOne x1 σ).bind fun q3 =>
    if q3.1 = 0 then
      (f_X9_refuses (-2) q3.2).bind fun q4 =>
      some (q4.1, q4.2)
    else
      f_X9_best_20 x1 q3.2
set_option maxRecDepth 20000 in
theorem s_X9_best {d : Nat} {x1 : Int32} {σ : HS} {p : Int32 × HS} (h : f_X9_best x1 σ = some p) : hs_Spec (d + 8) yX9_best cX9_best 3 (some .int) [.ref 67, .int x1] σ (some (.int p.1), p.2) := by
  refine hs_spec' (by decide +kernel) rfl (Nat.le_of_ble_eq_true rfl) ?_
  show PW RX9 cX9_best 3 (hs_zM (d + 8) (some .int) (some (.int p.1), p.2)) 0 [some (.ref 67), some (.int x1), none] [] σ
  rw [f_X9_best] at h
  refine pw_iload_n eX9_best_0 rfl ?_
  refine pw_iconst eX9_best_1 ki_m1 ?_
  refine pw_icmp_eq (tgt := 20) eX9_best_2 (by decide) (fun c => ?_) (fun c => ?_)
  · have h := hs_it c h
    exact w_X9_best_20 x1 σ h
  · have h := hs_ie c h
    refine pw_aload_n eX9_best_5 rfl ?_
    refine pw_iload_n eX9_best_6 rfl ?_
    obtain ⟨q3, g, h⟩ := hs_bind h
    refine pw_mV1i eX9_best_7 mv_X9_96 ob_67 (s_X9_isOne g) (Nat.le_of_ble_eq_true rfl) ?_
    refine pw_if_ne (tgt := 20) eX9_best_10 (by decide) (fun c => ?_) (fun c => ?_)
    · have h := hs_ie c h
      exact w_X9_best_20 x1 q3.2 h
    · have h := hs_it c h
      refine pw_aload_n eX9_best_13 rfl ?_
      refine pw_bipush eX9_best_14 kb_m2 ?_
      obtain ⟨q4, g, h⟩ := hs_bind h
      refine pw_mV1i eX9_best_16 mv_X9_63 ob_67 (s_X9_refuses g) (Nat.le_of_ble_eq_true rfl) ?_
      exact pw_iret' eX9_best_19 h
