def f_X9_in (x0 : Int32) (x1 : Int32) (x2 : Int32) (σ : HS) : Option (Int32 × HS) :=
  if x0 < x1 then
    some (0, σ)
  else
    if x2 < x0 then
      some (0, σ)
    else
      some (1, σ)
set_option maxRecDepth 20000 in
theorem s_X9_in {d : Nat} {x0 : Int32} {x1 : Int32} {x2 : Int32} {σ : HS} {p : Int32 × HS} (h : f_X9_in x0 x1 x2 σ = some p) : hs_Spec (d + 1) yX9_in cX9_in 3 (some .boolean) [.int x0, .int x1, .int x2] σ (some (.int p.1), p.2) := by
  refine hs_spec' (by decide +kernel) rfl (Nat.le_of_ble_eq_true rfl) ?_
  show PW RX9 cX9_in 3 (hs_zM (d + 1) (some .boolean) (some (.int p.1), p.2)) 0 [some (.int x0), some (.int x1), some (.int x2)] [] σ
  rw [f_X9_in] at h
  refine pw_iload_n eX9_in_0 rfl ?_
  refine pw_iload_n eX9_in_1 rfl ?_
  refine pw_icmp_lt (tgt := 14) eX9_in_2 (by decide) (fun c => ?_) (fun c => ?_)
  · have h := hs_it c h
    refine pw_iconst eX9_in_14 ki_0 ?_
    exact pw_zret' eX9_in_15 narrow_b0 h
  · have h := hs_ie c h
    refine pw_iload_n eX9_in_5 rfl ?_
    refine pw_iload_n eX9_in_6 rfl ?_
    refine pw_icmp_gt (tgt := 14) eX9_in_7 (by decide) (fun c => ?_) (fun c => ?_)
    · have h := hs_it c h
      refine pw_iconst eX9_in_14 ki_0 ?_
      exact pw_zret' eX9_in_15 narrow_b0 h
    · have h := hs_ie c h
      refine pw_iconst eX9_in_10 ki_1 ?_
      refine pw_goto (pc' := 15) eX9_in_11 (by decide) ?_
      exact pw_zret' eX9_in_15 narrow_b1 h

def f_X9_has (x0 : Int32) (x1 : Int32) (σ : HS) : Option (Int32 × HS) :=
  if ((x0 >>> (x1 &&& 31)) &&& 1) = 1 then
    some (1, σ)
  else
    some (0, σ)
set_option maxRecDepth 20000 in
theorem s_X9_has {d : Nat} {x0 : Int32} {x1 : Int32} {σ : HS} {p : Int32 × HS} (h : f_X9_has x0 x1 σ = some p) : hs_Spec (d + 1) yX9_has cX9_has 2 (some .boolean) [.int x0, .int x1] σ (some (.int p.1), p.2) := by
  refine hs_spec' (by decide +kernel) rfl (Nat.le_of_ble_eq_true rfl) ?_
  show PW RX9 cX9_has 2 (hs_zM (d + 1) (some .boolean) (some (.int p.1), p.2)) 0 [some (.int x0), some (.int x1)] [] σ
  rw [f_X9_has] at h
  refine pw_iload_n eX9_has_0 rfl ?_
  refine pw_iload_n eX9_has_1 rfl ?_
  refine pw_ishr eX9_has_2 ?_
  refine pw_iconst eX9_has_3 ki_1 ?_
  refine pw_iand eX9_has_4 ?_
  refine pw_iconst eX9_has_5 ki_1 ?_
  refine pw_icmp_ne (tgt := 13) eX9_has_6 (by decide) (fun c => ?_) (fun c => ?_)
  · have h := hs_ie c h
    refine pw_iconst eX9_has_13 ki_0 ?_
    exact pw_zret' eX9_has_14 narrow_b0 h
  · have h := hs_it c h
    refine pw_iconst eX9_has_9 ki_1 ?_
    refine pw_goto (pc' := 14) eX9_has_10 (by decide) ?_
    exact pw_zret' eX9_has_14 narrow_b1 h

def f_X9_refuses (x1 : Int32) (σ : HS) : Option (Int32 × HS) :=
  (ldI (σ.1 71) 4 ((-2 : Int32) - x1)).bind fun v1 =>
  (stI σ 71 4 ((-2 : Int32) - x1) (v1 + 1)).bind fun σ2 =>
  some (x1, σ2)
set_option maxRecDepth 20000 in
theorem s_X9_refuses {d : Nat} {x1 : Int32} {σ : HS} {p : Int32 × HS} (h : f_X9_refuses x1 σ = some p) : hs_Spec (d + 1) yX9_refuses cX9_refuses 2 (some .int) [.ref 67, .int x1] σ (some (.int p.1), p.2) := by
  refine hs_spec' (by decide +kernel) rfl (Nat.le_of_ble_eq_true rfl) ?_
  show PW RX9 cX9_refuses 2 (hs_zM (d + 1) (some .int) (some (.int p.1), p.2)) 0 [some (.ref 67), some (.int x1)] [] σ
  rw [f_X9_refuses] at h
  refine pw_aload_n eX9_refuses_0 rfl ?_
  refine pw_getR (r := 71) eX9_refuses_1 fl_X9_19 ob_67 rfl ?_
  refine pw_bipush eX9_refuses_4 kb_m2 ?_
  refine pw_iload_n eX9_refuses_6 rfl ?_
  refine pw_isub eX9_refuses_7 ?_
  refine pw_dup2 eX9_refuses_8 rfl rfl ?_
  obtain ⟨v1, g, h⟩ := hs_bind h
  refine pw_iald' eX9_refuses_9 ai_71 g ?_
  refine pw_iconst eX9_refuses_10 ki_1 ?_
  refine pw_iadd eX9_refuses_11 ?_
  obtain ⟨σ2, g, h⟩ := hs_bind h
  refine pw_iast' eX9_refuses_12 ai_71 g ?_
  refine pw_iload_n eX9_refuses_13 rfl ?_
  exact pw_iret' eX9_refuses_14 h

def f_X9_hold_2 : Nat → Int32 → HS → Option (HS)
  | 0, _, _ => none
  | n + 1, x1, σ =>
    if (66 : Int32) ≤ x1 then
      some σ
    else
      (ldI (σ.1 68) 66 x1).bind fun v1 =>
      (stI σ 69 66 x1 v1).bind fun σ2 =>
      f_X9_hold_2 n (x1 + 1) σ2
set_option maxRecDepth 20000 in
theorem w_X9_hold_2 {d : Nat} {p : HS} : ∀ (n : Nat) (x1 : Int32) (σ : HS), f_X9_hold_2 n x1 σ = some p → PW RX9 cX9_hold 2 (hs_zM (d + 1) none (none, p)) 2 [some (.ref 67), some (.int x1)] [] σ := by
  intro n
  induction n with
  | zero =>
    intro x1 σ h
    rw [f_X9_hold_2] at h
    cases h
  | succ n ih =>
    intro x1 σ h
    rw [f_X9_hold_2] at h
    refine pw_iload_n eX9_hold_2 rfl ?_
    refine pw_bipush eX9_hold_3 kb_66 ?_
    refine pw_icmp_ge (tgt := 26) eX9_hold_5 (by decide) (fun c => ?_) (fun c => ?_)
    · have h := hs_it c h
      exact pw_vret' eX9_hold_26 h
    · have h := hs_ie c h
      refine pw_aload_n eX9_hold_8 rfl ?_
      refine pw_getR (r := 69) eX9_hold_9 fl_X9_13 ob_67 rfl ?_
      refine pw_iload_n eX9_hold_12 rfl ?_
      refine pw_aload_n eX9_hold_13 rfl ?_
      refine pw_getR (r := 68) eX9_hold_14 fl_X9_7 ob_67 rfl ?_
      refine pw_iload_n eX9_hold_17 rfl ?_
      obtain ⟨v1, g, h⟩ := hs_bind h
      refine pw_iald' eX9_hold_18 ai_68 g ?_
      obtain ⟨σ2, g, h⟩ := hs_bind h
      refine pw_iast' eX9_hold_19 ai_69 g ?_
      refine pw_iinc eX9_hold_20 (by decide) rfl ki_1 rfl rfl ?_
      refine pw_goto (pc' := 2) eX9_hold_23 (by decide) ?_
      exact ih (x1 + 1) σ2 h
def f_X9_hold (σ : HS) : Option (HS) :=
  f_X9_hold_2 FU 0 σ
set_option maxRecDepth 20000 in
theorem s_X9_hold {d : Nat} {σ : HS} {p : HS} (h : f_X9_hold σ = some p) : hs_Spec (d + 1) yX9_hold cX9_hold 2 none [.ref 67] σ (none, p) := by
  refine hs_spec' (by decide +kernel) rfl (Nat.le_of_ble_eq_true rfl) ?_
  show PW RX9 cX9_hold 2 (hs_zM (d + 1) none (none, p)) 0 [some (.ref 67), none] [] σ
  rw [f_X9_hold] at h
  refine pw_iconst eX9_hold_0 ki_0 ?_
  refine pw_istore_n eX9_hold_1 rfl (by decide) rfl rfl ?_
  exact w_X9_hold_2 FU 0 σ h

def f_X9_push_50 : Nat → Int32 → HS → Option (HS)
  | 0, _, _ => none
  | n + 1, x1, σ =>
    if (66 : Int32) ≤ x1 then
      some (sI σ 67 3 ((σ.1 67 3) + 1))
    else
      (ldI (σ.1 69) 66 x1).bind fun v1 =>
      (stI σ 70 330 (((66 : Int32) * (σ.1 67 3)) + x1) v1).bind fun σ2 =>
      f_X9_push_50 n (x1 + 1) σ2
set_option maxRecDepth 20000 in
theorem w_X9_push_50 {d : Nat} {p : HS} : ∀ (n : Nat) (x1 : Int32) (σ : HS), f_X9_push_50 n x1 σ = some p → PW RX9 cX9_push 2 (hs_zM (d + 1) none (none, p)) 50 [some (.ref 67), some (.int x1)] [] σ := by
  intro n
  induction n with
  | zero =>
    intro x1 σ h
    rw [f_X9_push_50] at h
    cases h
  | succ n ih =>
    intro x1 σ h
    rw [f_X9_push_50] at h
    refine pw_iload_n eX9_push_50 rfl ?_
    refine pw_bipush eX9_push_51 kb_66 ?_
    refine pw_icmp_ge (tgt := 82) eX9_push_53 (by decide) (fun c => ?_) (fun c => ?_)
    · have h := hs_it c h
      refine pw_aload_n eX9_push_82 rfl ?_
      refine pw_dup eX9_push_83 rfl ?_
      refine pw_getI eX9_push_84 fl_X9_59 ob_67 rfl ?_
      refine pw_iconst eX9_push_87 ki_1 ?_
      refine pw_iadd eX9_push_88 ?_
      refine pw_putI eX9_push_89 fw_X9_59 ob_67 rfl ?_
      exact pw_vret' eX9_push_92 h
    · have h := hs_ie c h
      refine pw_aload_n eX9_push_56 rfl ?_
      refine pw_getR (r := 70) eX9_push_57 fl_X9_16 ob_67 rfl ?_
      refine pw_bipush eX9_push_60 kb_66 ?_
      refine pw_aload_n eX9_push_62 rfl ?_
      refine pw_getI eX9_push_63 fl_X9_59 ob_67 rfl ?_
      refine pw_imul eX9_push_66 ?_
      refine pw_iload_n eX9_push_67 rfl ?_
      refine pw_iadd eX9_push_68 ?_
      refine pw_aload_n eX9_push_69 rfl ?_
      refine pw_getR (r := 69) eX9_push_70 fl_X9_13 ob_67 rfl ?_
      refine pw_iload_n eX9_push_73 rfl ?_
      obtain ⟨v1, g, h⟩ := hs_bind h
      refine pw_iald' eX9_push_74 ai_69 g ?_
      obtain ⟨σ2, g, h⟩ := hs_bind h
      refine pw_iast' eX9_push_75 ai_70 g ?_
      refine pw_iinc eX9_push_76 (by decide) rfl ki_1 rfl rfl ?_
      refine pw_goto (pc' := 50) eX9_push_79 (by decide) ?_
      exact ih (x1 + 1) σ2 h
def f_X9_push_10 : Nat → Int32 → HS → Option (HS)
  | 0, _, _ => none
  | n + 1, x1, σ =>
    if (264 : Int32) ≤ x1 then
      f_X9_push_50 FU 0 (sI σ 67 3 ((σ.1 67 3) - 1))
    else
      (ldI (σ.1 70) 330 (x1 + 66)).bind fun v3 =>
      (stI σ 70 330 x1 v3).bind fun σ4 =>
      f_X9_push_10 n (x1 + 1) σ4
set_option maxRecDepth 20000 in
theorem w_X9_push_10 {d : Nat} {p : HS} : ∀ (n : Nat) (x1 : Int32) (σ : HS), f_X9_push_10 n x1 σ = some p → PW RX9 cX9_push 2 (hs_zM (d + 1) none (none, p)) 10 [some (.ref 67), some (.int x1)] [] σ := by
  intro n
  induction n with
  | zero =>
    intro x1 σ h
    rw [f_X9_push_10] at h
    cases h
  | succ n ih =>
    intro x1 σ h
    rw [f_X9_push_10] at h
    refine pw_iload_n eX9_push_10 rfl ?_
    refine pw_sipush eX9_push_11 ks_264 ?_
    refine pw_icmp_ge (tgt := 38) eX9_push_14 (by decide) (fun c => ?_) (fun c => ?_)
    · have h := hs_it c h
      refine pw_aload_n eX9_push_38 rfl ?_
      refine pw_dup eX9_push_39 rfl ?_
      refine pw_getI eX9_push_40 fl_X9_59 ob_67 rfl ?_
      refine pw_iconst eX9_push_43 ki_1 ?_
      refine pw_isub eX9_push_44 ?_
      refine pw_putI eX9_push_45 fw_X9_59 ob_67 rfl ?_
      refine pw_iconst eX9_push_48 ki_0 ?_
      refine pw_istore_n eX9_push_49 rfl (by decide) rfl rfl ?_
      exact w_X9_push_50 FU 0 (sI σ 67 3 ((σ.1 67 3) - 1)) h
    · have h := hs_ie c h
      refine pw_aload_n eX9_push_17 rfl ?_
      refine pw_getR (r := 70) eX9_push_18 fl_X9_16 ob_67 rfl ?_
      refine pw_iload_n eX9_push_21 rfl ?_
      refine pw_aload_n eX9_push_22 rfl ?_
      refine pw_getR (r := 70) eX9_push_23 fl_X9_16 ob_67 rfl ?_
      refine pw_iload_n eX9_push_26 rfl ?_
      refine pw_bipush eX9_push_27 kb_66 ?_
      refine pw_iadd eX9_push_29 ?_
      obtain ⟨v3, g, h⟩ := hs_bind h
      refine pw_iald' eX9_push_30 ai_70 g ?_
      obtain ⟨σ4, g, h⟩ := hs_bind h
      refine pw_iast' eX9_push_31 ai_70 g ?_
      refine pw_iinc eX9_push_32 (by decide) rfl ki_1 rfl rfl ?_
      refine pw_goto (pc' := 10) eX9_push_35 (by decide) ?_
      exact ih (x1 + 1) σ4 h
def f_X9_push (σ : HS) : Option (HS) :=
  if (σ.1 67 3) = 5 then
    f_X9_push_10 FU 0 σ
  else
    f_X9_push_50 FU 0 σ
set_option maxRecDepth 20000 in
theorem s_X9_push {d : Nat} {σ : HS} {p : HS} (h : f_X9_push σ = some p) : hs_Spec (d + 1) yX9_push cX9_push 2 none [.ref 67] σ (none, p) := by
  refine hs_spec' (by decide +kernel) rfl (Nat.le_of_ble_eq_true rfl) ?_
  show PW RX9 cX9_push 2 (hs_zM (d + 1) none (none, p)) 0 [some (.ref 67), none] [] σ
  rw [f_X9_push] at h
  refine pw_aload_n eX9_push_0 rfl ?_
  refine pw_getI eX9_push_1 fl_X9_59 ob_67 rfl ?_
  refine pw_iconst eX9_push_4 ki_5 ?_
  refine pw_icmp_ne (tgt := 48) eX9_push_5 (by decide) (fun c => ?_) (fun c => ?_)
  · have h := hs_ie c h
    refine pw_iconst eX9_push_48 ki_0 ?_
    refine pw_istore_n eX9_push_49 rfl (by decide) rfl rfl ?_
    exact w_X9_push_50 FU 0 σ h
  · have h := hs_it c h
    refine pw_iconst eX9_push_8 ki_0 ?_
    refine pw_istore_n eX9_push_9 rfl (by decide) rfl rfl ?_
    exact w_X9_push_10 FU 0 σ h

def f_X9_ends (x1 : Int32) (σ : HS) : Option (Int32 × HS) :=
  if (0 : Int32) ≤ x1 then
    (f_X9_push σ).bind fun σ1 =>
    some (x1, σ1)
  else
    (f_X9_refuses x1 σ).bind fun q2 =>
    some (q2.1, q2.2)
set_option maxRecDepth 20000 in
theorem s_X9_ends {d : Nat} {x1 : Int32} {σ : HS} {p : Int32 × HS} (h : f_X9_ends x1 σ = some p) : hs_Spec (d + 2) yX9_ends cX9_ends 2 (some .int) [.ref 67, .int x1] σ (some (.int p.1), p.2) := by
  refine hs_spec' (by decide +kernel) rfl (Nat.le_of_ble_eq_true rfl) ?_
  show PW RX9 cX9_ends 2 (hs_zM (d + 2) (some .int) (some (.int p.1), p.2)) 0 [some (.ref 67), some (.int x1)] [] σ
  rw [f_X9_ends] at h
  refine pw_iload_n eX9_ends_0 rfl ?_
  refine pw_if_ge (tgt := 10) eX9_ends_1 (by decide) (fun c => ?_) (fun c => ?_)
  · have h := hs_it c h
    refine pw_aload_n eX9_ends_10 rfl ?_
    obtain ⟨σ1, g, h⟩ := hs_bind h
    refine pw_mV0v eX9_ends_11 mv_X9_67 ob_67 (s_X9_push g) (Nat.le_of_ble_eq_true rfl) ?_
    refine pw_iload_n eX9_ends_14 rfl ?_
    exact pw_iret' eX9_ends_15 h
  · have h := hs_ie c h
    refine pw_aload_n eX9_ends_4 rfl ?_
    refine pw_iload_n eX9_ends_5 rfl ?_
    obtain ⟨q2, g, h⟩ := hs_bind h
    refine pw_mV1i eX9_ends_6 mv_X9_63 ob_67 (s_X9_refuses g) (Nat.le_of_ble_eq_true rfl) ?_
    exact pw_iret' eX9_ends_9 h

def f_X9_back_26 : Nat → Int32 → HS → Option (Int32 × HS)
  | 0, _, _ => none
  | n + 1, x1, σ =>
    if (66 : Int32) ≤ x1 then
      some (((sI σ 67 5 0).1 67 3), (sI σ 67 5 0))
    else
      (ldI (σ.1 70) 330 (((66 : Int32) * (σ.1 67 3)) + x1)).bind fun v1 =>
      (stI σ 68 66 x1 v1).bind fun σ2 =>
      f_X9_back_26 n (x1 + 1) σ2
set_option maxRecDepth 20000 in
theorem w_X9_back_26 {d : Nat} {p : Int32 × HS} : ∀ (n : Nat) (x1 : Int32) (σ : HS), f_X9_back_26 n x1 σ = some p → PW RX9 cX9_back 2 (hs_zM (d + 2) (some .int) (some (.int p.1), p.2)) 26 [some (.ref 67), some (.int x1)] [] σ := by
  intro n
  induction n with
  | zero =>
    intro x1 σ h
    rw [f_X9_back_26] at h
    cases h
  | succ n ih =>
    intro x1 σ h
    rw [f_X9_back_26] at h
    refine pw_iload_n eX9_back_26 rfl ?_
    refine pw_bipush eX9_back_27 kb_66 ?_
    refine pw_icmp_ge (tgt := 58) eX9_back_29 (by decide) (fun c => ?_) (fun c => ?_)
    · have h := hs_it c h
      refine pw_aload_n eX9_back_58 rfl ?_
      refine pw_iconst eX9_back_59 ki_0 ?_
      refine pw_putZ eX9_back_60 fw_X9_70 ob_67 rfl narrow_b0 rfl ?_
      refine pw_aload_n eX9_back_63 rfl ?_
      refine pw_getI eX9_back_64 fl_X9_59 ob_67 rfl ?_
      exact pw_iret' eX9_back_67 h
    · have h := hs_ie c h
      refine pw_aload_n eX9_back_32 rfl ?_
      refine pw_getR (r := 68) eX9_back_33 fl_X9_7 ob_67 rfl ?_
      refine pw_iload_n eX9_back_36 rfl ?_
      refine pw_aload_n eX9_back_37 rfl ?_
      refine pw_getR (r := 70) eX9_back_38 fl_X9_16 ob_67 rfl ?_
      refine pw_bipush eX9_back_41 kb_66 ?_
      refine pw_aload_n eX9_back_43 rfl ?_
      refine pw_getI eX9_back_44 fl_X9_59 ob_67 rfl ?_
      refine pw_imul eX9_back_47 ?_
      refine pw_iload_n eX9_back_48 rfl ?_
      refine pw_iadd eX9_back_49 ?_
      obtain ⟨v1, g, h⟩ := hs_bind h
      refine pw_iald' eX9_back_50 ai_70 g ?_
      obtain ⟨σ2, g, h⟩ := hs_bind h
      refine pw_iast' eX9_back_51 ai_68 g ?_
      refine pw_iinc eX9_back_52 (by decide) rfl ki_1 rfl rfl ?_
      refine pw_goto (pc' := 26) eX9_back_55 (by decide) ?_
      exact ih (x1 + 1) σ2 h
def f_X9_back (σ : HS) : Option (Int32 × HS) :=
  if (σ.1 67 3) = 0 then
    (f_X9_refuses (-3) σ).bind fun q3 =>
    some (q3.1, q3.2)
  else
    f_X9_back_26 FU 0 (sI σ 67 3 ((σ.1 67 3) - 1))
set_option maxRecDepth 20000 in
theorem s_X9_back {d : Nat} {σ : HS} {p : Int32 × HS} (h : f_X9_back σ = some p) : hs_Spec (d + 2) yX9_back cX9_back 2 (some .int) [.ref 67] σ (some (.int p.1), p.2) := by
  refine hs_spec' (by decide +kernel) rfl (Nat.le_of_ble_eq_true rfl) ?_
  show PW RX9 cX9_back 2 (hs_zM (d + 2) (some .int) (some (.int p.1), p.2)) 0 [some (.ref 67), none] [] σ
  rw [f_X9_back] at h
  refine pw_aload_n eX9_back_0 rfl ?_
  refine pw_getI eX9_back_1 fl_X9_59 ob_67 rfl ?_
  refine pw_if_ne (tgt := 14) eX9_back_4 (by decide) (fun c => ?_) (fun c => ?_)
  · have h := hs_ie c h
    refine pw_aload_n eX9_back_14 rfl ?_
    refine pw_dup eX9_back_15 rfl ?_
    refine pw_getI eX9_back_16 fl_X9_59 ob_67 rfl ?_
    refine pw_iconst eX9_back_19 ki_1 ?_
    refine pw_isub eX9_back_20 ?_
    refine pw_putI eX9_back_21 fw_X9_59 ob_67 rfl ?_
    refine pw_iconst eX9_back_24 ki_0 ?_
    refine pw_istore_n eX9_back_25 rfl (by decide) rfl rfl ?_
    exact w_X9_back_26 FU 0 (sI σ 67 3 ((σ.1 67 3) - 1)) h
  · have h := hs_it c h
    refine pw_aload_n eX9_back_7 rfl ?_
    refine pw_bipush eX9_back_8 kb_m3 ?_
    obtain ⟨q3, g, h⟩ := hs_bind h
    refine pw_mV1i eX9_back_10 mv_X9_63 ob_67 (s_X9_refuses g) (Nat.le_of_ble_eq_true rfl) ?_
    exact pw_iret' eX9_back_13 h

def f_X9_isKind (x1 : Int32) (σ : HS) : Option (Int32 × HS) :=
  (ldI (σ.1 68) 66 0).bind fun v1 =>
  (f_X9_in x1 0 (v1 - 1) σ).bind fun q2 =>
  (bzI q2.1).bind fun z3 =>
  some (z3, q2.2)
set_option maxRecDepth 20000 in
theorem s_X9_isKind {d : Nat} {x1 : Int32} {σ : HS} {p : Int32 × HS} (h : f_X9_isKind x1 σ = some p) : hs_Spec (d + 2) yX9_isKind cX9_isKind 2 (some .boolean) [.ref 67, .int x1] σ (some (.int p.1), p.2) := by
  refine hs_spec' (by decide +kernel) rfl (Nat.le_of_ble_eq_true rfl) ?_
  show PW RX9 cX9_isKind 2 (hs_zM (d + 2) (some .boolean) (some (.int p.1), p.2)) 0 [some (.ref 67), some (.int x1)] [] σ
  rw [f_X9_isKind] at h
  refine pw_iload_n eX9_isKind_0 rfl ?_
  refine pw_iconst eX9_isKind_1 ki_0 ?_
  refine pw_aload_n eX9_isKind_2 rfl ?_
  refine pw_getR (r := 68) eX9_isKind_3 fl_X9_7 ob_67 rfl ?_
  refine pw_iconst eX9_isKind_6 ki_0 ?_
  obtain ⟨v1, g, h⟩ := hs_bind h
  refine pw_iald' eX9_isKind_7 ai_68 g ?_
  refine pw_iconst eX9_isKind_8 ki_1 ?_
  refine pw_isub eX9_isKind_9 ?_
  obtain ⟨q2, g, h⟩ := hs_bind h
  refine pw_mS3i eX9_isKind_10 ms_X9_74 (s_X9_in g) (Nat.le_of_ble_eq_true rfl) ?_
  obtain ⟨z3, g, h⟩ := hs_bind h
  exact pw_bret' eX9_isKind_13 g h

def f_X9_isOne (x1 : Int32) (σ : HS) : Option (Int32 × HS) :=
  (ldI (σ.1 68) 66 23).bind fun v1 =>
  (f_X9_in x1 0 (v1 - 1) σ).bind fun q2 =>
  (bzI q2.1).bind fun z3 =>
  some (z3, q2.2)
set_option maxRecDepth 20000 in
theorem s_X9_isOne {d : Nat} {x1 : Int32} {σ : HS} {p : Int32 × HS} (h : f_X9_isOne x1 σ = some p) : hs_Spec (d + 2) yX9_isOne cX9_isOne 2 (some .boolean) [.ref 67, .int x1] σ (some (.int p.1), p.2) := by
  refine hs_spec' (by decide +kernel) rfl (Nat.le_of_ble_eq_true rfl) ?_
  show PW RX9 cX9_isOne 2 (hs_zM (d + 2) (some .boolean) (some (.int p.1), p.2)) 0 [some (.ref 67), some (.int x1)] [] σ
  rw [f_X9_isOne] at h
  refine pw_iload_n eX9_isOne_0 rfl ?_
  refine pw_iconst eX9_isOne_1 ki_0 ?_
  refine pw_aload_n eX9_isOne_2 rfl ?_
  refine pw_getR (r := 68) eX9_isOne_3 fl_X9_7 ob_67 rfl ?_
  refine pw_bipush eX9_isOne_6 kb_23 ?_
  obtain ⟨v1, g, h⟩ := hs_bind h
  refine pw_iald' eX9_isOne_8 ai_68 g ?_
  refine pw_iconst eX9_isOne_9 ki_1 ?_
  refine pw_isub eX9_isOne_10 ?_
  obtain ⟨q2, g, h⟩ := hs_bind h
  refine pw_mS3i eX9_isOne_11 ms_X9_74 (s_X9_in g) (Nat.le_of_ble_eq_true rfl) ?_
  obtain ⟨z3, g, h⟩ := hs_bind h
  exact pw_bret' eX9_isOne_14 g h

def f_X9_ofKind (x1 : Int32) (x2 : Int32) (σ : HS) : Option (Int32 × HS) :=
  (ldI (σ.1 68) 66 (((1 : Int32) + ((4 : Int32) * x1)) + x2)).bind fun v1 =>
  some (v1, σ)
set_option maxRecDepth 20000 in
theorem s_X9_ofKind {d : Nat} {x1 : Int32} {x2 : Int32} {σ : HS} {p : Int32 × HS} (h : f_X9_ofKind x1 x2 σ = some p) : hs_Spec (d + 1) yX9_ofKind cX9_ofKind 3 (some .int) [.ref 67, .int x1, .int x2] σ (some (.int p.1), p.2) := by
  refine hs_spec' (by decide +kernel) rfl (Nat.le_of_ble_eq_true rfl) ?_
  show PW RX9 cX9_ofKind 3 (hs_zM (d + 1) (some .int) (some (.int p.1), p.2)) 0 [some (.ref 67), some (.int x1), some (.int x2)] [] σ
  rw [f_X9_ofKind] at h
  refine pw_aload_n eX9_ofKind_0 rfl ?_
  refine pw_getR (r := 68) eX9_ofKind_1 fl_X9_7 ob_67 rfl ?_
  refine pw_iconst eX9_ofKind_4 ki_1 ?_
  refine pw_iconst eX9_ofKind_5 ki_4 ?_
  refine pw_iload_n eX9_ofKind_6 rfl ?_
  refine pw_imul eX9_ofKind_7 ?_
  refine pw_iadd eX9_ofKind_8 ?_
  refine pw_iload_n eX9_ofKind_9 rfl ?_
  refine pw_iadd eX9_ofKind_10 ?_
  obtain ⟨v1, g, h⟩ := hs_bind h
  refine pw_iald' eX9_ofKind_11 ai_68 g ?_
  exact pw_iret' eX9_ofKind_12 h

def f_X9_ofOne (x1 : Int32) (x2 : Int32) (σ : HS) : Option (Int32 × HS) :=
  (ldI (σ.1 68) 66 ((24 : Int32) + x1)).bind fun v1 =>
  (f_X9_ofKind v1 x2 σ).bind fun q2 =>
  some (q2.1, q2.2)
set_option maxRecDepth 20000 in
theorem s_X9_ofOne {d : Nat} {x1 : Int32} {x2 : Int32} {σ : HS} {p : Int32 × HS} (h : f_X9_ofOne x1 x2 σ = some p) : hs_Spec (d + 2) yX9_ofOne cX9_ofOne 3 (some .int) [.ref 67, .int x1, .int x2] σ (some (.int p.1), p.2) := by
  refine hs_spec' (by decide +kernel) rfl (Nat.le_of_ble_eq_true rfl) ?_
  show PW RX9 cX9_ofOne 3 (hs_zM (d + 2) (some .int) (some (.int p.1), p.2)) 0 [some (.ref 67), some (.int x1), some (.int x2)] [] σ
  rw [f_X9_ofOne] at h
  refine pw_aload_n eX9_ofOne_0 rfl ?_
  refine pw_aload_n eX9_ofOne_1 rfl ?_
  refine pw_getR (r := 68) eX9_ofOne_2 fl_X9_7 ob_67 rfl ?_
  refine pw_bipush eX9_ofOne_5 kb_24 ?_
  refine pw_iload_n eX9_ofOne_7 rfl ?_
  refine pw_iadd eX9_ofOne_8 ?_
  obtain ⟨v1, g, h⟩ := hs_bind h
  refine pw_iald' eX9_ofOne_9 ai_68 g ?_
  refine pw_iload_n eX9_ofOne_10 rfl ?_
  obtain ⟨q2, g, h⟩ := hs_bind h
  refine pw_mV2i eX9_ofOne_11 mv_X9_78 ob_67 (s_X9_ofKind g) (Nat.le_of_ble_eq_true rfl) ?_
  exact pw_iret' eX9_ofOne_14 h

def f_X9_latency (x1 : Int32) (σ : HS) : Option (Int32 × HS) :=
  (f_X9_ofOne x1 3 σ).bind fun q1 =>
  some (q1.1, q1.2)
set_option maxRecDepth 20000 in
theorem s_X9_latency {d : Nat} {x1 : Int32} {σ : HS} {p : Int32 × HS} (h : f_X9_latency x1 σ = some p) : hs_Spec (d + 3) yX9_latency cX9_latency 2 (some .int) [.ref 67, .int x1] σ (some (.int p.1), p.2) := by
  refine hs_spec' (by decide +kernel) rfl (Nat.le_of_ble_eq_true rfl) ?_
  show PW RX9 cX9_latency 2 (hs_zM (d + 3) (some .int) (some (.int p.1), p.2)) 0 [some (.ref 67), some (.int x1)] [] σ
  rw [f_X9_latency] at h
  refine pw_aload_n eX9_latency_0 rfl ?_
  refine pw_iload_n eX9_latency_1 rfl ?_
  refine pw_iconst eX9_latency_2 ki_3 ?_
  obtain ⟨q1, g, h⟩ := hs_bind h
  refine pw_mV2i eX9_latency_3 mv_X9_82 ob_67 (s_X9_ofOne g) (Nat.le_of_ble_eq_true rfl) ?_
  exact pw_iret' eX9_latency_6 h

def f_X9_needOf (x1 : Int32) (x2 : Int32) (σ : HS) : Option (Int32 × HS) :=
  (ldI (σ.1 68) 66 (((30 : Int32) + ((6 : Int32) * x1)) + x2)).bind fun v1 =>
  some (v1, σ)
set_option maxRecDepth 20000 in
theorem s_X9_needOf {d : Nat} {x1 : Int32} {x2 : Int32} {σ : HS} {p : Int32 × HS} (h : f_X9_needOf x1 x2 σ = some p) : hs_Spec (d + 1) yX9_needOf cX9_needOf 3 (some .int) [.ref 67, .int x1, .int x2] σ (some (.int p.1), p.2) := by
  refine hs_spec' (by decide +kernel) rfl (Nat.le_of_ble_eq_true rfl) ?_
  show PW RX9 cX9_needOf 3 (hs_zM (d + 1) (some .int) (some (.int p.1), p.2)) 0 [some (.ref 67), some (.int x1), some (.int x2)] [] σ
  rw [f_X9_needOf] at h
  refine pw_aload_n eX9_needOf_0 rfl ?_
  refine pw_getR (r := 68) eX9_needOf_1 fl_X9_7 ob_67 rfl ?_
  refine pw_bipush eX9_needOf_4 kb_30 ?_
  refine pw_bipush eX9_needOf_6 kb_6 ?_
  refine pw_iload_n eX9_needOf_8 rfl ?_
  refine pw_imul eX9_needOf_9 ?_
  refine pw_iadd eX9_needOf_10 ?_
  refine pw_iload_n eX9_needOf_11 rfl ?_
  refine pw_iadd eX9_needOf_12 ?_
  obtain ⟨v1, g, h⟩ := hs_bind h
  refine pw_iald' eX9_needOf_13 ai_68 g ?_
  exact pw_iret' eX9_needOf_14 h

def f_X9_counts (x1 : Int32) (x2 : Int32) (σ : HS) : Option (Int32 × HS) :=
  (f_X9_needOf x1 x2 σ).bind fun q1 =>
  if q1.1 = 2 then
    (ldI (q1.2.1 68) 66 22).bind fun v2 =>
    if v2 = 1 then
      some (0, q1.2)
    else
      some (q1.1, q1.2)
  else
    some (q1.1, q1.2)
set_option maxRecDepth 20000 in
theorem s_X9_counts {d : Nat} {x1 : Int32} {x2 : Int32} {σ : HS} {p : Int32 × HS} (h : f_X9_counts x1 x2 σ = some p) : hs_Spec (d + 2) yX9_counts cX9_counts 4 (some .int) [.ref 67, .int x1, .int x2] σ (some (.int p.1), p.2) := by
  refine hs_spec' (by decide +kernel) rfl (Nat.le_of_ble_eq_true rfl) ?_
  show PW RX9 cX9_counts 4 (hs_zM (d + 2) (some .int) (some (.int p.1), p.2)) 0 [some (.ref 67), some (.int x1), some (.int x2), none] [] σ
  rw [f_X9_counts] at h
  refine pw_aload_n eX9_counts_0 rfl ?_
  refine pw_iload_n eX9_counts_1 rfl ?_
  refine pw_iload_n eX9_counts_2 rfl ?_
  obtain ⟨q1, g, h⟩ := hs_bind h
  refine pw_mV2i eX9_counts_3 mv_X9_85 ob_67 (s_X9_needOf g) (Nat.le_of_ble_eq_true rfl) ?_
  refine pw_istore_n eX9_counts_6 rfl (by decide) rfl rfl ?_
  refine pw_iload_n eX9_counts_7 rfl ?_
  refine pw_iconst eX9_counts_8 ki_2 ?_
  refine pw_icmp_ne (tgt := 27) eX9_counts_9 (by decide) (fun c => ?_) (fun c => ?_)
  · have h := hs_ie c h
    refine pw_iload_n eX9_counts_27 rfl ?_
    exact pw_iret' eX9_counts_28 h
  · have h := hs_it c h
    refine pw_aload_n eX9_counts_12 rfl ?_
    refine pw_getR (r := 68) eX9_counts_13 fl_X9_7 ob_67 rfl ?_
    refine pw_bipush eX9_counts_16 kb_22 ?_
    obtain ⟨v2, g, h⟩ := hs_bind h
    refine pw_iald' eX9_counts_18 ai_68 g ?_
    refine pw_iconst eX9_counts_19 ki_1 ?_
    refine pw_icmp_ne (tgt := 27) eX9_counts_20 (by decide) (fun c => ?_) (fun c => ?_)
    · have h := hs_ie c h
      refine pw_iload_n eX9_counts_27 rfl ?_
      exact pw_iret' eX9_counts_28 h
    · have h := hs_it c h
      refine pw_iconst eX9_counts_23 ki_0 ?_
      refine pw_goto (pc' := 28) eX9_counts_24 (by decide) ?_
      exact pw_iret' eX9_counts_28 h

def f_X9_doKind (x1 : Int32) (x2 : Int32) (x3 : Int32) (x4 : Int32) (σ : HS) : Option (Int32 × HS) :=
  (f_X9_in x1 0 15 σ).bind fun q1 =>
  if q1.1 = 0 then
    some ((-2), q1.2)
  else
    (f_X9_in x2 0 15 q1.2).bind fun q2 =>
    if q2.1 = 0 then
      some ((-2), q2.2)
    else
      (f_X9_in x3 0 15 q2.2).bind fun q3 =>
      if q3.1 = 0 then
        some ((-2), q3.2)
      else
        (f_X9_in x4 1 5 q3.2).bind fun q4 =>
        if q4.1 = 0 then
          some ((-2), q4.2)
        else
          (ldI (q4.2.1 68) 66 0).bind fun v5 =>
          if v5 = 5 then
            some ((-4), q4.2)
          else
            (ldI (q4.2.1 68) 66 0).bind fun v6 =>
            (stI q4.2 68 66 ((1 : Int32) + ((4 : Int32) * v6)) x1).bind fun σ7 =>
            (stI σ7 68 66 (((1 : Int32) + ((4 : Int32) * v6)) + 1) x2).bind fun σ8 =>
            (stI σ8 68 66 (((1 : Int32) + ((4 : Int32) * v6)) + 2) x3).bind fun σ9 =>
            (stI σ9 68 66 (((1 : Int32) + ((4 : Int32) * v6)) + 3) x4).bind fun σ10 =>
            (ldI (σ10.1 68) 66 0).bind fun v11 =>
            (stI σ10 68 66 0 (v11 + 1)).bind fun σ12 =>
            (ldI ((sI σ12 67 5 0).1 68) 66 0).bind fun v13 =>
            some ((v13 - 1), (sI σ12 67 5 0))
set_option maxRecDepth 20000 in
theorem s_X9_doKind {d : Nat} {x1 : Int32} {x2 : Int32} {x3 : Int32} {x4 : Int32} {σ : HS} {p : Int32 × HS} (h : f_X9_doKind x1 x2 x3 x4 σ = some p) : hs_Spec (d + 2) yX9_doKind cX9_doKind 6 (some .int) [.ref 67, .int x1, .int x2, .int x3, .int x4] σ (some (.int p.1), p.2) := by
  refine hs_spec' (by decide +kernel) rfl (Nat.le_of_ble_eq_true rfl) ?_
  show PW RX9 cX9_doKind 6 (hs_zM (d + 2) (some .int) (some (.int p.1), p.2)) 0 [some (.ref 67), some (.int x1), some (.int x2), some (.int x3), some (.int x4), none] [] σ
  rw [f_X9_doKind] at h
  refine pw_iload_n eX9_doKind_0 rfl ?_
  refine pw_iconst eX9_doKind_1 ki_0 ?_
  refine pw_bipush eX9_doKind_2 kb_15 ?_
  obtain ⟨q1, g, h⟩ := hs_bind h
  refine pw_mS3i eX9_doKind_4 ms_X9_74 (s_X9_in g) (Nat.le_of_ble_eq_true rfl) ?_
  refine pw_if_eq (tgt := 40) eX9_doKind_7 (by decide) (fun c => ?_) (fun c => ?_)
  · have h := hs_it c h
    refine pw_bipush eX9_doKind_40 kb_m2 ?_
    exact pw_iret' eX9_doKind_42 h
  · have h := hs_ie c h
    refine pw_iload_n eX9_doKind_10 rfl ?_
    refine pw_iconst eX9_doKind_11 ki_0 ?_
    refine pw_bipush eX9_doKind_12 kb_15 ?_
    obtain ⟨q2, g, h⟩ := hs_bind h
    refine pw_mS3i eX9_doKind_14 ms_X9_74 (s_X9_in g) (Nat.le_of_ble_eq_true rfl) ?_
    refine pw_if_eq (tgt := 40) eX9_doKind_17 (by decide) (fun c => ?_) (fun c => ?_)
    · have h := hs_it c h
      refine pw_bipush eX9_doKind_40 kb_m2 ?_
      exact pw_iret' eX9_doKind_42 h
    · have h := hs_ie c h
      refine pw_iload_n eX9_doKind_20 rfl ?_
      refine pw_iconst eX9_doKind_21 ki_0 ?_
      refine pw_bipush eX9_doKind_22 kb_15 ?_
      obtain ⟨q3, g, h⟩ := hs_bind h
      refine pw_mS3i eX9_doKind_24 ms_X9_74 (s_X9_in g) (Nat.le_of_ble_eq_true rfl) ?_
      refine pw_if_eq (tgt := 40) eX9_doKind_27 (by decide) (fun c => ?_) (fun c => ?_)
      · have h := hs_it c h
        refine pw_bipush eX9_doKind_40 kb_m2 ?_
        exact pw_iret' eX9_doKind_42 h
      · have h := hs_ie c h
        refine pw_iload eX9_doKind_30 rfl ?_
        refine pw_iconst eX9_doKind_32 ki_1 ?_
        refine pw_iconst eX9_doKind_33 ki_5 ?_
        obtain ⟨q4, g, h⟩ := hs_bind h
        refine pw_mS3i eX9_doKind_34 ms_X9_74 (s_X9_in g) (Nat.le_of_ble_eq_true rfl) ?_
        refine pw_if_ne (tgt := 43) eX9_doKind_37 (by decide) (fun c => ?_) (fun c => ?_)
        · have h := hs_ie c h
          refine pw_aload_n eX9_doKind_43 rfl ?_
          refine pw_getR (r := 68) eX9_doKind_44 fl_X9_7 ob_67 rfl ?_
          refine pw_iconst eX9_doKind_47 ki_0 ?_
          obtain ⟨v5, g, h⟩ := hs_bind h
          refine pw_iald' eX9_doKind_48 ai_68 g ?_
          refine pw_iconst eX9_doKind_49 ki_5 ?_
          refine pw_icmp_ne (tgt := 56) eX9_doKind_50 (by decide) (fun c => ?_) (fun c => ?_)
          · have h := hs_ie c h
            refine pw_iconst eX9_doKind_56 ki_1 ?_
            refine pw_iconst eX9_doKind_57 ki_4 ?_
            refine pw_aload_n eX9_doKind_58 rfl ?_
            refine pw_getR (r := 68) eX9_doKind_59 fl_X9_7 ob_67 rfl ?_
            refine pw_iconst eX9_doKind_62 ki_0 ?_
            obtain ⟨v6, g, h⟩ := hs_bind h
            refine pw_iald' eX9_doKind_63 ai_68 g ?_
            refine pw_imul eX9_doKind_64 ?_
            refine pw_iadd eX9_doKind_65 ?_
            refine pw_istore eX9_doKind_66 (by decide) rfl rfl ?_
            refine pw_aload_n eX9_doKind_68 rfl ?_
            refine pw_getR (r := 68) eX9_doKind_69 fl_X9_7 ob_67 rfl ?_
            refine pw_iload eX9_doKind_72 rfl ?_
            refine pw_iload_n eX9_doKind_74 rfl ?_
            obtain ⟨σ7, g, h⟩ := hs_bind h
            refine pw_iast' eX9_doKind_75 ai_68 g ?_
            refine pw_aload_n eX9_doKind_76 rfl ?_
            refine pw_getR (r := 68) eX9_doKind_77 fl_X9_7 ob_67 rfl ?_
            refine pw_iload eX9_doKind_80 rfl ?_
            refine pw_iconst eX9_doKind_82 ki_1 ?_
            refine pw_iadd eX9_doKind_83 ?_
            refine pw_iload_n eX9_doKind_84 rfl ?_
            obtain ⟨σ8, g, h⟩ := hs_bind h
            refine pw_iast' eX9_doKind_85 ai_68 g ?_
            refine pw_aload_n eX9_doKind_86 rfl ?_
            refine pw_getR (r := 68) eX9_doKind_87 fl_X9_7 ob_67 rfl ?_
            refine pw_iload eX9_doKind_90 rfl ?_
            refine pw_iconst eX9_doKind_92 ki_2 ?_
            refine pw_iadd eX9_doKind_93 ?_
            refine pw_iload_n eX9_doKind_94 rfl ?_
            obtain ⟨σ9, g, h⟩ := hs_bind h
            refine pw_iast' eX9_doKind_95 ai_68 g ?_
            refine pw_aload_n eX9_doKind_96 rfl ?_
            refine pw_getR (r := 68) eX9_doKind_97 fl_X9_7 ob_67 rfl ?_
            refine pw_iload eX9_doKind_100 rfl ?_
            refine pw_iconst eX9_doKind_102 ki_3 ?_
            refine pw_iadd eX9_doKind_103 ?_
            refine pw_iload eX9_doKind_104 rfl ?_
            obtain ⟨σ10, g, h⟩ := hs_bind h
            refine pw_iast' eX9_doKind_106 ai_68 g ?_
            refine pw_aload_n eX9_doKind_107 rfl ?_
            refine pw_getR (r := 68) eX9_doKind_108 fl_X9_7 ob_67 rfl ?_
            refine pw_iconst eX9_doKind_111 ki_0 ?_
            refine pw_dup2 eX9_doKind_112 rfl rfl ?_
            obtain ⟨v11, g, h⟩ := hs_bind h
            refine pw_iald' eX9_doKind_113 ai_68 g ?_
            refine pw_iconst eX9_doKind_114 ki_1 ?_
            refine pw_iadd eX9_doKind_115 ?_
            obtain ⟨σ12, g, h⟩ := hs_bind h
            refine pw_iast' eX9_doKind_116 ai_68 g ?_
            refine pw_aload_n eX9_doKind_117 rfl ?_
            refine pw_iconst eX9_doKind_118 ki_0 ?_
            refine pw_putZ eX9_doKind_119 fw_X9_70 ob_67 rfl narrow_b0 rfl ?_
            refine pw_aload_n eX9_doKind_122 rfl ?_
            refine pw_getR (r := 68) eX9_doKind_123 fl_X9_7 ob_67 rfl ?_
            refine pw_iconst eX9_doKind_126 ki_0 ?_
            obtain ⟨v13, g, h⟩ := hs_bind h
            refine pw_iald' eX9_doKind_127 ai_68 g ?_
            refine pw_iconst eX9_doKind_128 ki_1 ?_
            refine pw_isub eX9_doKind_129 ?_
            exact pw_iret' eX9_doKind_130 h
          · have h := hs_it c h
            refine pw_bipush eX9_doKind_53 kb_m4 ?_
            exact pw_iret' eX9_doKind_55 h
        · have h := hs_it c h
          refine pw_bipush eX9_doKind_40 kb_m2 ?_
          exact pw_iret' eX9_doKind_42 h

def f_X9_doSets (x1 : Int32) (x2 : Int32) (σ : HS) : Option (Int32 × HS) :=
  (f_X9_in x1 0 1 σ).bind fun q1 =>
  if q1.1 = 0 then
    some ((-2), q1.2)
  else
    (f_X9_in x2 ((1 : Int32) - x1) ((3 : Int32) - ((2 : Int32) * x1)) q1.2).bind fun q2 =>
    if q2.1 = 0 then
      some ((-2), q2.2)
    else
      (ldI (q2.2.1 68) 66 ((21 : Int32) + x1)).bind fun v3 =>
      (stI q2.2 68 66 ((21 : Int32) + x1) x2).bind fun σ4 =>
      some (v3, σ4)
set_option maxRecDepth 20000 in
theorem s_X9_doSets {d : Nat} {x1 : Int32} {x2 : Int32} {σ : HS} {p : Int32 × HS} (h : f_X9_doSets x1 x2 σ = some p) : hs_Spec (d + 2) yX9_doSets cX9_doSets 4 (some .int) [.ref 67, .int x1, .int x2] σ (some (.int p.1), p.2) := by
  refine hs_spec' (by decide +kernel) rfl (Nat.le_of_ble_eq_true rfl) ?_
  show PW RX9 cX9_doSets 4 (hs_zM (d + 2) (some .int) (some (.int p.1), p.2)) 0 [some (.ref 67), some (.int x1), some (.int x2), none] [] σ
  rw [f_X9_doSets] at h
  refine pw_iload_n eX9_doSets_0 rfl ?_
  refine pw_iconst eX9_doSets_1 ki_0 ?_
  refine pw_iconst eX9_doSets_2 ki_1 ?_
  obtain ⟨q1, g, h⟩ := hs_bind h
  refine pw_mS3i eX9_doSets_3 ms_X9_74 (s_X9_in g) (Nat.le_of_ble_eq_true rfl) ?_
  refine pw_if_eq (tgt := 24) eX9_doSets_6 (by decide) (fun c => ?_) (fun c => ?_)
  · have h := hs_it c h
    refine pw_bipush eX9_doSets_24 kb_m2 ?_
    exact pw_iret' eX9_doSets_26 h
  · have h := hs_ie c h
    refine pw_iload_n eX9_doSets_9 rfl ?_
    refine pw_iconst eX9_doSets_10 ki_1 ?_
    refine pw_iload_n eX9_doSets_11 rfl ?_
    refine pw_isub eX9_doSets_12 ?_
    refine pw_iconst eX9_doSets_13 ki_3 ?_
    refine pw_iconst eX9_doSets_14 ki_2 ?_
    refine pw_iload_n eX9_doSets_15 rfl ?_
    refine pw_imul eX9_doSets_16 ?_
    refine pw_isub eX9_doSets_17 ?_
    obtain ⟨q2, g, h⟩ := hs_bind h
    refine pw_mS3i eX9_doSets_18 ms_X9_74 (s_X9_in g) (Nat.le_of_ble_eq_true rfl) ?_
    refine pw_if_ne (tgt := 27) eX9_doSets_21 (by decide) (fun c => ?_) (fun c => ?_)
    · have h := hs_ie c h
      refine pw_aload_n eX9_doSets_27 rfl ?_
      refine pw_getR (r := 68) eX9_doSets_28 fl_X9_7 ob_67 rfl ?_
      refine pw_bipush eX9_doSets_31 kb_21 ?_
      refine pw_iload_n eX9_doSets_33 rfl ?_
      refine pw_iadd eX9_doSets_34 ?_
      obtain ⟨v3, g, h⟩ := hs_bind h
      refine pw_iald' eX9_doSets_35 ai_68 g ?_
      refine pw_istore_n eX9_doSets_36 rfl (by decide) rfl rfl ?_
      refine pw_aload_n eX9_doSets_37 rfl ?_
      refine pw_getR (r := 68) eX9_doSets_38 fl_X9_7 ob_67 rfl ?_
      refine pw_bipush eX9_doSets_41 kb_21 ?_
      refine pw_iload_n eX9_doSets_43 rfl ?_
      refine pw_iadd eX9_doSets_44 ?_
      refine pw_iload_n eX9_doSets_45 rfl ?_
      obtain ⟨σ4, g, h⟩ := hs_bind h
      refine pw_iast' eX9_doSets_46 ai_68 g ?_
      refine pw_iload_n eX9_doSets_47 rfl ?_
      exact pw_iret' eX9_doSets_48 h
    · have h := hs_it c h
      refine pw_bipush eX9_doSets_24 kb_m2 ?_
      exact pw_iret' eX9_doSets_26 h

def f_X9_doInstruction (x1 : Int32) (σ : HS) : Option (Int32 × HS) :=
  (f_X9_isKind x1 σ).bind fun q1 =>
  if q1.1 = 0 then
    some ((-2), q1.2)
  else
    (ldI (q1.2.1 68) 66 23).bind fun v2 =>
    if v2 = 6 then
      some ((-4), q1.2)
    else
      (ldI (q1.2.1 68) 66 23).bind fun v3 =>
      (stI q1.2 68 66 ((24 : Int32) + v3) x1).bind fun σ4 =>
      (ldI (σ4.1 68) 66 23).bind fun v5 =>
      (stI σ4 68 66 23 (v5 + 1)).bind fun σ6 =>
      (ldI (σ6.1 68) 66 23).bind fun v7 =>
      some ((v7 - 1), σ6)
set_option maxRecDepth 20000 in
theorem s_X9_doInstruction {d : Nat} {x1 : Int32} {σ : HS} {p : Int32 × HS} (h : f_X9_doInstruction x1 σ = some p) : hs_Spec (d + 3) yX9_doInstruction cX9_doInstruction 2 (some .int) [.ref 67, .int x1] σ (some (.int p.1), p.2) := by
  refine hs_spec' (by decide +kernel) rfl (Nat.le_of_ble_eq_true rfl) ?_
  show PW RX9 cX9_doInstruction 2 (hs_zM (d + 3) (some .int) (some (.int p.1), p.2)) 0 [some (.ref 67), some (.int x1)] [] σ
  rw [f_X9_doInstruction] at h
  refine pw_aload_n eX9_doInstruction_0 rfl ?_
  refine pw_iload_n eX9_doInstruction_1 rfl ?_
  obtain ⟨q1, g, h⟩ := hs_bind h
  refine pw_mV1i eX9_doInstruction_2 mv_X9_88 ob_67 (s_X9_isKind g) (Nat.le_of_ble_eq_true rfl) ?_
  refine pw_if_ne (tgt := 11) eX9_doInstruction_5 (by decide) (fun c => ?_) (fun c => ?_)
  · have h := hs_ie c h
    refine pw_aload_n eX9_doInstruction_11 rfl ?_
    refine pw_getR (r := 68) eX9_doInstruction_12 fl_X9_7 ob_67 rfl ?_
    refine pw_bipush eX9_doInstruction_15 kb_23 ?_
    obtain ⟨v2, g, h⟩ := hs_bind h
    refine pw_iald' eX9_doInstruction_17 ai_68 g ?_
    refine pw_bipush eX9_doInstruction_18 kb_6 ?_
    refine pw_icmp_ne (tgt := 26) eX9_doInstruction_20 (by decide) (fun c => ?_) (fun c => ?_)
    · have h := hs_ie c h
      refine pw_aload_n eX9_doInstruction_26 rfl ?_
      refine pw_getR (r := 68) eX9_doInstruction_27 fl_X9_7 ob_67 rfl ?_
      refine pw_bipush eX9_doInstruction_30 kb_24 ?_
      refine pw_aload_n eX9_doInstruction_32 rfl ?_
      refine pw_getR (r := 68) eX9_doInstruction_33 fl_X9_7 ob_67 rfl ?_
      refine pw_bipush eX9_doInstruction_36 kb_23 ?_
      obtain ⟨v3, g, h⟩ := hs_bind h
      refine pw_iald' eX9_doInstruction_38 ai_68 g ?_
      refine pw_iadd eX9_doInstruction_39 ?_
      refine pw_iload_n eX9_doInstruction_40 rfl ?_
      obtain ⟨σ4, g, h⟩ := hs_bind h
      refine pw_iast' eX9_doInstruction_41 ai_68 g ?_
      refine pw_aload_n eX9_doInstruction_42 rfl ?_
      refine pw_getR (r := 68) eX9_doInstruction_43 fl_X9_7 ob_67 rfl ?_
      refine pw_bipush eX9_doInstruction_46 kb_23 ?_
      refine pw_dup2 eX9_doInstruction_48 rfl rfl ?_
      obtain ⟨v5, g, h⟩ := hs_bind h
      refine pw_iald' eX9_doInstruction_49 ai_68 g ?_
      refine pw_iconst eX9_doInstruction_50 ki_1 ?_
      refine pw_iadd eX9_doInstruction_51 ?_
      obtain ⟨σ6, g, h⟩ := hs_bind h
      refine pw_iast' eX9_doInstruction_52 ai_68 g ?_
      refine pw_aload_n eX9_doInstruction_53 rfl ?_
      refine pw_getR (r := 68) eX9_doInstruction_54 fl_X9_7 ob_67 rfl ?_
      refine pw_bipush eX9_doInstruction_57 kb_23 ?_
      obtain ⟨v7, g, h⟩ := hs_bind h
      refine pw_iald' eX9_doInstruction_59 ai_68 g ?_
      refine pw_iconst eX9_doInstruction_60 ki_1 ?_
      refine pw_isub eX9_doInstruction_61 ?_
      exact pw_iret' eX9_doInstruction_62 h
    · have h := hs_it c h
      refine pw_bipush eX9_doInstruction_23 kb_m4 ?_
      exact pw_iret' eX9_doInstruction_25 h
  · have h := hs_it c h
    refine pw_bipush eX9_doInstruction_8 kb_m2 ?_
    exact pw_iret' eX9_doInstruction_10 h

def f_X9_leads_32 (k : Int32 → Int32 → Int32 → Int32 → HS → Option (Int32 × HS)) : Nat → Int32 → Int32 → Int32 → Int32 → Int32 → HS → Option (Int32 × HS)
  | 0, _, _, _, _, _, _ => none
  | n + 1, x2, x3, x4, x5, x6, σ =>
    (ldI (σ.1 68) 66 23).bind fun v4 =>
    if v4 ≤ x6 then
      k x2 x3 x4 x5 σ
    else
      (f_X9_has x3 x5 σ).bind fun q5 =>
      if q5.1 = 0 then
        k x2 x3 x4 x5 q5.2
      else
        (f_X9_needOf x5 x6 q5.2).bind fun q6 =>
        if q6.1 = 0 then
          f_X9_leads_32 k n x2 (x3 ||| 0) x4 x5 (x6 + 1) q6.2
        else
          f_X9_leads_32 k n x2 (x3 ||| ((1 : Int32) <<< (x6 &&& 31))) x4 x5 (x6 + 1) q6.2
set_option maxRecDepth 20000 in
theorem w_X9_leads_32 {d : Nat} {p : Int32 × HS} {k : Int32 → Int32 → Int32 → Int32 → HS → Option (Int32 × HS)} (hk : ∀ (x2 : Int32) (x3 : Int32) (x4 : Int32) (x5 : Int32) (σ : HS), k x2 x3 x4 x5 σ = some p → PW RX9 cX9_leads 7 (hs_zM (d + 2) (some .boolean) (some (.int p.1), p.2)) 81 [some (.ref 67), none, some (.int x2), some (.int x3), some (.int x4), some (.int x5), none] [] σ) : ∀ (n : Nat) (x2 : Int32) (x3 : Int32) (x4 : Int32) (x5 : Int32) (x6 : Int32) (σ : HS), f_X9_leads_32 k n x2 x3 x4 x5 x6 σ = some p → PW RX9 cX9_leads 7 (hs_zM (d + 2) (some .boolean) (some (.int p.1), p.2)) 32 [some (.ref 67), none, some (.int x2), some (.int x3), some (.int x4), some (.int x5), some (.int x6)] [] σ := by
  intro n
  induction n with
  | zero =>
    intro x2 x3 x4 x5 x6 σ h
    rw [f_X9_leads_32] at h
    cases h
  | succ n ih =>
    intro x2 x3 x4 x5 x6 σ h
    rw [f_X9_leads_32] at h
    refine pw_iload eX9_leads_32 rfl ?_
    refine pw_aload_n eX9_leads_34 rfl ?_
    refine pw_getR (r := 68) eX9_leads_35 fl_X9_7 ob_67 rfl ?_
    refine pw_bipush eX9_leads_38 kb_23 ?_
    obtain ⟨v4, g, h⟩ := hs_bind h
    refine pw_iald' eX9_leads_40 ai_68 g ?_
    refine pw_icmp_ge (tgt := 81) eX9_leads_41 (by decide) (fun c => ?_) (fun c => ?_)
    · have h := hs_it c h
      exact pw_le (hk x2 x3 x4 x5 σ h) ⟨rfl, rfl, rfl, rfl, rfl, trivial⟩
    · have h := hs_ie c h
      refine pw_iload_n eX9_leads_44 rfl ?_
      refine pw_iload eX9_leads_45 rfl ?_
      obtain ⟨q5, g, h⟩ := hs_bind h
      refine pw_mS2i eX9_leads_47 ms_X9_92 (s_X9_has g) (Nat.le_of_ble_eq_true rfl) ?_
      refine pw_if_eq (tgt := 81) eX9_leads_50 (by decide) (fun c => ?_) (fun c => ?_)
      · have h := hs_it c h
        exact pw_le (hk x2 x3 x4 x5 q5.2 h) ⟨rfl, rfl, rfl, rfl, rfl, trivial⟩
      · have h := hs_ie c h
        refine pw_iload_n eX9_leads_53 rfl ?_
        refine pw_aload_n eX9_leads_54 rfl ?_
        refine pw_iload eX9_leads_55 rfl ?_
        refine pw_iload eX9_leads_57 rfl ?_
        obtain ⟨q6, g, h⟩ := hs_bind h
        refine pw_mV2i eX9_leads_59 mv_X9_85 ob_67 (s_X9_needOf g) (Nat.le_of_ble_eq_true rfl) ?_
        refine pw_if_eq (tgt := 72) eX9_leads_62 (by decide) (fun c => ?_) (fun c => ?_)
        · have h := hs_it c h
          refine pw_iconst eX9_leads_72 ki_0 ?_
          refine pw_ior eX9_leads_73 ?_
          refine pw_istore_n eX9_leads_74 rfl (by decide) rfl rfl ?_
          refine pw_iinc eX9_leads_75 (by decide) rfl ki_1 rfl rfl ?_
          refine pw_goto (pc' := 32) eX9_leads_78 (by decide) ?_
          exact ih x2 (x3 ||| 0) x4 x5 (x6 + 1) q6.2 h
        · have h := hs_ie c h
          refine pw_iconst eX9_leads_65 ki_1 ?_
          refine pw_iload eX9_leads_66 rfl ?_
          refine pw_ishl eX9_leads_68 ?_
          refine pw_goto (pc' := 73) eX9_leads_69 (by decide) ?_
          refine pw_ior eX9_leads_73 ?_
          refine pw_istore_n eX9_leads_74 rfl (by decide) rfl rfl ?_
          refine pw_iinc eX9_leads_75 (by decide) rfl ki_1 rfl rfl ?_
          refine pw_goto (pc' := 32) eX9_leads_78 (by decide) ?_
          exact ih x2 (x3 ||| ((1 : Int32) <<< (x6 &&& 31))) x4 x5 (x6 + 1) q6.2 h
def f_X9_leads_17 (k : Int32 → Int32 → Int32 → HS → Option (Int32 × HS)) : Nat → Int32 → Int32 → Int32 → Int32 → HS → Option (Int32 × HS)
  | 0, _, _, _, _, _ => none
  | n + 1, x2, x3, x4, x5, σ =>
    (ldI (σ.1 68) 66 23).bind fun v3 =>
    if v3 ≤ x5 then
      k x2 x3 x4 σ
    else
      f_X9_leads_32 (fun e7 e8 e9 e10 σ11 =>
        f_X9_leads_17 k n e7 e8 e9 (e10 + 1) σ11) FU x2 x3 x4 x5 0 σ
set_option maxRecDepth 20000 in
theorem w_X9_leads_17 {d : Nat} {p : Int32 × HS} {k : Int32 → Int32 → Int32 → HS → Option (Int32 × HS)} (hk : ∀ (x2 : Int32) (x3 : Int32) (x4 : Int32) (σ : HS), k x2 x3 x4 σ = some p → PW RX9 cX9_leads 7 (hs_zM (d + 2) (some .boolean) (some (.int p.1), p.2)) 87 [some (.ref 67), none, some (.int x2), some (.int x3), some (.int x4), none, none] [] σ) : ∀ (n : Nat) (x2 : Int32) (x3 : Int32) (x4 : Int32) (x5 : Int32) (σ : HS), f_X9_leads_17 k n x2 x3 x4 x5 σ = some p → PW RX9 cX9_leads 7 (hs_zM (d + 2) (some .boolean) (some (.int p.1), p.2)) 17 [some (.ref 67), none, some (.int x2), some (.int x3), some (.int x4), some (.int x5), none] [] σ := by
  intro n
  induction n with
  | zero =>
    intro x2 x3 x4 x5 σ h
    rw [f_X9_leads_17] at h
    cases h
  | succ n ih =>
    intro x2 x3 x4 x5 σ h
    rw [f_X9_leads_17] at h
    refine pw_iload eX9_leads_17 rfl ?_
    refine pw_aload_n eX9_leads_19 rfl ?_
    refine pw_getR (r := 68) eX9_leads_20 fl_X9_7 ob_67 rfl ?_
    refine pw_bipush eX9_leads_23 kb_23 ?_
    obtain ⟨v3, g, h⟩ := hs_bind h
    refine pw_iald' eX9_leads_25 ai_68 g ?_
    refine pw_icmp_ge (tgt := 87) eX9_leads_26 (by decide) (fun c => ?_) (fun c => ?_)
    · have h := hs_it c h
      exact pw_le (hk x2 x3 x4 σ h) ⟨rfl, rfl, rfl, rfl, trivial⟩
    · have h := hs_ie c h
      refine pw_iconst eX9_leads_29 ki_0 ?_
      refine pw_istore eX9_leads_30 (by decide) rfl rfl ?_
      refine w_X9_leads_32 (fun e7 e8 e9 e10 σ11 h => ?_) FU x2 x3 x4 x5 0 σ h
      refine pw_iinc eX9_leads_81 (by decide) rfl ki_1 rfl rfl ?_
      refine pw_goto (pc' := 17) eX9_leads_84 (by decide) ?_
      exact ih e7 e8 e9 (e10 + 1) σ11 h
def f_X9_leads_7 : Nat → Int32 → Int32 → Int32 → HS → Option (Int32 × HS)
  | 0, _, _, _, _ => none
  | n + 1, x2, x3, x4, σ =>
    if (6 : Int32) ≤ x4 then
      (f_X9_has x3 x2 σ).bind fun q1 =>
      (bzI q1.1).bind fun z2 =>
      some (z2, q1.2)
    else
      f_X9_leads_17 (fun e12 e13 e14 σ15 =>
        f_X9_leads_7 n e12 e13 (e14 + 1) σ15) FU x2 x3 x4 0 σ
set_option maxRecDepth 20000 in
theorem w_X9_leads_7 {d : Nat} {p : Int32 × HS} : ∀ (n : Nat) (x2 : Int32) (x3 : Int32) (x4 : Int32) (σ : HS), f_X9_leads_7 n x2 x3 x4 σ = some p → PW RX9 cX9_leads 7 (hs_zM (d + 2) (some .boolean) (some (.int p.1), p.2)) 7 [some (.ref 67), none, some (.int x2), some (.int x3), some (.int x4), none, none] [] σ := by
  intro n
  induction n with
  | zero =>
    intro x2 x3 x4 σ h
    rw [f_X9_leads_7] at h
    cases h
  | succ n ih =>
    intro x2 x3 x4 σ h
    rw [f_X9_leads_7] at h
    refine pw_iload eX9_leads_7 rfl ?_
    refine pw_bipush eX9_leads_9 kb_6 ?_
    refine pw_icmp_ge (tgt := 93) eX9_leads_11 (by decide) (fun c => ?_) (fun c => ?_)
    · have h := hs_it c h
      refine pw_iload_n eX9_leads_93 rfl ?_
      refine pw_iload_n eX9_leads_94 rfl ?_
      obtain ⟨q1, g, h⟩ := hs_bind h
      refine pw_mS2i eX9_leads_95 ms_X9_92 (s_X9_has g) (Nat.le_of_ble_eq_true rfl) ?_
      obtain ⟨z2, g, h⟩ := hs_bind h
      exact pw_bret' eX9_leads_98 g h
    · have h := hs_ie c h
      refine pw_iconst eX9_leads_14 ki_0 ?_
      refine pw_istore eX9_leads_15 (by decide) rfl rfl ?_
      refine w_X9_leads_17 (fun e12 e13 e14 σ15 h => ?_) FU x2 x3 x4 0 σ h
      refine pw_iinc eX9_leads_87 (by decide) rfl ki_1 rfl rfl ?_
      refine pw_goto (pc' := 7) eX9_leads_90 (by decide) ?_
      exact ih e12 e13 (e14 + 1) σ15 h
def f_X9_leads (x1 : Int32) (x2 : Int32) (σ : HS) : Option (Int32 × HS) :=
  f_X9_leads_7 FU x2 ((1 : Int32) <<< (x1 &&& 31)) 0 σ
set_option maxRecDepth 20000 in
theorem s_X9_leads {d : Nat} {x1 : Int32} {x2 : Int32} {σ : HS} {p : Int32 × HS} (h : f_X9_leads x1 x2 σ = some p) : hs_Spec (d + 2) yX9_leads cX9_leads 7 (some .boolean) [.ref 67, .int x1, .int x2] σ (some (.int p.1), p.2) := by
  refine hs_spec' (by decide +kernel) rfl (Nat.le_of_ble_eq_true rfl) ?_
  show PW RX9 cX9_leads 7 (hs_zM (d + 2) (some .boolean) (some (.int p.1), p.2)) 0 [some (.ref 67), some (.int x1), some (.int x2), none, none, none, none] [] σ
  rw [f_X9_leads] at h
  refine pw_iconst eX9_leads_0 ki_1 ?_
  refine pw_iload_n eX9_leads_1 rfl ?_
  refine pw_ishl eX9_leads_2 ?_
  refine pw_istore_n eX9_leads_3 rfl (by decide) rfl rfl ?_
  refine pw_iconst eX9_leads_4 ki_0 ?_
  refine pw_istore eX9_leads_5 (by decide) rfl rfl ?_
  exact pw_le (w_X9_leads_7 FU x2 ((1 : Int32) <<< (x1 &&& 31)) 0 σ h) ⟨rfl, rfl, rfl, rfl, trivial⟩

def f_X9_doNeeds_49 (x1 : Int32) (x2 : Int32) (x3 : Int32) (σ : HS) : Option (Int32 × HS) :=
  (f_X9_needOf x1 x2 σ).bind fun q4 =>
  (stI q4.2 68 66 (((30 : Int32) + ((6 : Int32) * x1)) + x2) x3).bind fun σ5 =>
  some (q4.1, σ5)
set_option maxRecDepth 20000 in
theorem w_X9_doNeeds_49 {d : Nat} {p : Int32 × HS} : ∀ (x1 : Int32) (x2 : Int32) (x3 : Int32) (σ : HS), f_X9_doNeeds_49 x1 x2 x3 σ = some p → PW RX9 cX9_doNeeds 5 (hs_zM (d + 3) (some .int) (some (.int p.1), p.2)) 49 [some (.ref 67), some (.int x1), some (.int x2), some (.int x3), none] [] σ := by
  intro x1 x2 x3 σ h
  rw [f_X9_doNeeds_49] at h
  refine pw_aload_n eX9_doNeeds_49 rfl ?_
  refine pw_iload_n eX9_doNeeds_50 rfl ?_
  refine pw_iload_n eX9_doNeeds_51 rfl ?_
  obtain ⟨q4, g, h⟩ := hs_bind h
  refine pw_mV2i eX9_doNeeds_52 mv_X9_85 ob_67 (s_X9_needOf g) (Nat.le_of_ble_eq_true rfl) ?_
  refine pw_istore eX9_doNeeds_55 (by decide) rfl rfl ?_
  refine pw_aload_n eX9_doNeeds_57 rfl ?_
  refine pw_getR (r := 68) eX9_doNeeds_58 fl_X9_7 ob_67 rfl ?_
  refine pw_bipush eX9_doNeeds_61 kb_30 ?_
  refine pw_bipush eX9_doNeeds_63 kb_6 ?_
  refine pw_iload_n eX9_doNeeds_65 rfl ?_
  refine pw_imul eX9_doNeeds_66 ?_
  refine pw_iadd eX9_doNeeds_67 ?_
  refine pw_iload_n eX9_doNeeds_68 rfl ?_
  refine pw_iadd eX9_doNeeds_69 ?_
  refine pw_iload_n eX9_doNeeds_70 rfl ?_
  obtain ⟨σ5, g, h⟩ := hs_bind h
  refine pw_iast' eX9_doNeeds_71 ai_68 g ?_
  refine pw_iload eX9_doNeeds_72 rfl ?_
  exact pw_iret' eX9_doNeeds_74 h
def f_X9_doNeeds (x1 : Int32) (x2 : Int32) (x3 : Int32) (σ : HS) : Option (Int32 × HS) :=
  (f_X9_isOne x1 σ).bind fun q1 =>
  if q1.1 = 0 then
    some ((-2), q1.2)
  else
    (f_X9_isOne x2 q1.2).bind fun q2 =>
    if q2.1 = 0 then
      some ((-2), q2.2)
    else
      if x1 = x2 then
        some ((-2), q2.2)
      else
        (f_X9_in x3 0 2 q2.2).bind fun q3 =>
        if q3.1 = 0 then
          some ((-2), q3.2)
        else
          if x3 = 0 then
            f_X9_doNeeds_49 x1 x2 x3 q3.2
          else
            (f_X9_leads x2 x1 q3.2).bind fun q6 =>
            if q6.1 = 0 then
              f_X9_doNeeds_49 x1 x2 x3 q6.2
            else
              some ((-3), q6.2)
set_option maxRecDepth 20000 in
theorem s_X9_doNeeds {d : Nat} {x1 : Int32} {x2 : Int32} {x3 : Int32} {σ : HS} {p : Int32 × HS} (h : f_X9_doNeeds x1 x2 x3 σ = some p) : hs_Spec (d + 3) yX9_doNeeds cX9_doNeeds 5 (some .int) [.ref 67, .int x1, .int x2, .int x3] σ (some (.int p.1), p.2) := by
  refine hs_spec' (by decide +kernel) rfl (Nat.le_of_ble_eq_true rfl) ?_
  show PW RX9 cX9_doNeeds 5 (hs_zM (d + 3) (some .int) (some (.int p.1), p.2)) 0 [some (.ref 67), some (.int x1), some (.int x2), some (.int x3), none] [] σ
  rw [f_X9_doNeeds] at h
  refine pw_aload_n eX9_doNeeds_0 rfl ?_
  refine pw_iload_n eX9_doNeeds_1 rfl ?_
  obtain ⟨q1, g, h⟩ := hs_bind h
  refine pw_mV1i eX9_doNeeds_2 mv_X9_96 ob_67 (s_X9_isOne g) (Nat.le_of_ble_eq_true rfl) ?_
  refine pw_if_eq (tgt := 30) eX9_doNeeds_5 (by decide) (fun c => ?_) (fun c => ?_)
  · have h := hs_it c h
    refine pw_bipush eX9_doNeeds_30 kb_m2 ?_
    exact pw_iret' eX9_doNeeds_32 h
  · have h := hs_ie c h
    refine pw_aload_n eX9_doNeeds_8 rfl ?_
    refine pw_iload_n eX9_doNeeds_9 rfl ?_
    obtain ⟨q2, g, h⟩ := hs_bind h
    refine pw_mV1i eX9_doNeeds_10 mv_X9_96 ob_67 (s_X9_isOne g) (Nat.le_of_ble_eq_true rfl) ?_
    refine pw_if_eq (tgt := 30) eX9_doNeeds_13 (by decide) (fun c => ?_) (fun c => ?_)
    · have h := hs_it c h
      refine pw_bipush eX9_doNeeds_30 kb_m2 ?_
      exact pw_iret' eX9_doNeeds_32 h
    · have h := hs_ie c h
      refine pw_iload_n eX9_doNeeds_16 rfl ?_
      refine pw_iload_n eX9_doNeeds_17 rfl ?_
      refine pw_icmp_eq (tgt := 30) eX9_doNeeds_18 (by decide) (fun c => ?_) (fun c => ?_)
      · have h := hs_it c h
        refine pw_bipush eX9_doNeeds_30 kb_m2 ?_
        exact pw_iret' eX9_doNeeds_32 h
      · have h := hs_ie c h
        refine pw_iload_n eX9_doNeeds_21 rfl ?_
        refine pw_iconst eX9_doNeeds_22 ki_0 ?_
        refine pw_iconst eX9_doNeeds_23 ki_2 ?_
        obtain ⟨q3, g, h⟩ := hs_bind h
        refine pw_mS3i eX9_doNeeds_24 ms_X9_74 (s_X9_in g) (Nat.le_of_ble_eq_true rfl) ?_
        refine pw_if_ne (tgt := 33) eX9_doNeeds_27 (by decide) (fun c => ?_) (fun c => ?_)
        · have h := hs_ie c h
          refine pw_iload_n eX9_doNeeds_33 rfl ?_
          refine pw_if_eq (tgt := 49) eX9_doNeeds_34 (by decide) (fun c => ?_) (fun c => ?_)
          · have h := hs_it c h
            exact w_X9_doNeeds_49 x1 x2 x3 q3.2 h
          · have h := hs_ie c h
            refine pw_aload_n eX9_doNeeds_37 rfl ?_
            refine pw_iload_n eX9_doNeeds_38 rfl ?_
            refine pw_iload_n eX9_doNeeds_39 rfl ?_
            obtain ⟨q6, g, h⟩ := hs_bind h
            refine pw_mV2i eX9_doNeeds_40 mv_X9_99 ob_67 (s_X9_leads g) (Nat.le_of_ble_eq_true rfl) ?_
            refine pw_if_eq (tgt := 49) eX9_doNeeds_43 (by decide) (fun c => ?_) (fun c => ?_)
            · have h := hs_it c h
              exact w_X9_doNeeds_49 x1 x2 x3 q6.2 h
            · have h := hs_ie c h
              refine pw_bipush eX9_doNeeds_46 kb_m3 ?_
              exact pw_iret' eX9_doNeeds_48 h
        · have h := hs_it c h
          refine pw_bipush eX9_doNeeds_30 kb_m2 ?_
          exact pw_iret' eX9_doNeeds_32 h

def f_X9_doDrops_86 (rec : Int32 → Int32 → Int32 → HS → Option (Int32 × HS)) (x1 : Int32) (x2 : Int32) (x3 : Int32) (x4 : Int32) (t0 : Int32) (σ : HS) : Option (Int32 × HS) :=
  if (6 : Int32) ≤ x4 then
    (stI σ 68 66 (((30 : Int32) + ((6 : Int32) * x2)) + x3) 0).bind fun σ5 =>
    rec x1 x2 (x3 + 1) σ5
  else
    if (6 : Int32) ≤ t0 then
      (stI σ 68 66 (((30 : Int32) + ((6 : Int32) * x2)) + x3) 0).bind fun σ6 =>
      rec x1 x2 (x3 + 1) σ6
    else
      (f_X9_needOf x4 t0 σ).bind fun q7 =>
      (stI q7.2 68 66 (((30 : Int32) + ((6 : Int32) * x2)) + x3) q7.1).bind fun σ8 =>
      rec x1 x2 (x3 + 1) σ8
set_option maxRecDepth 20000 in
theorem w_X9_doDrops_86 {d : Nat} {p : Int32 × HS} {rec : Int32 → Int32 → Int32 → HS → Option (Int32 × HS)} (hrec : ∀ (x1 : Int32) (x2 : Int32) (x3 : Int32) (σ : HS), rec x1 x2 x3 σ = some p → PW RX9 cX9_doDrops 6 (hs_zM (d + 3) (some .int) (some (.int p.1), p.2)) 54 [some (.ref 67), some (.int x1), some (.int x2), some (.int x3), none, none] [] σ) : ∀ (x1 : Int32) (x2 : Int32) (x3 : Int32) (x4 : Int32) (t0 : Int32) (σ : HS), f_X9_doDrops_86 rec x1 x2 x3 x4 t0 σ = some p → PW RX9 cX9_doDrops 6 (hs_zM (d + 3) (some .int) (some (.int p.1), p.2)) 86 [some (.ref 67), some (.int x1), some (.int x2), some (.int x3), some (.int x4), none] [.int t0] σ := by
  intro x1 x2 x3 x4 t0 σ h
  rw [f_X9_doDrops_86] at h
  refine pw_istore eX9_doDrops_86 (by decide) rfl rfl ?_
  refine pw_aload_n eX9_doDrops_88 rfl ?_
  refine pw_getR (r := 68) eX9_doDrops_89 fl_X9_7 ob_67 rfl ?_
  refine pw_bipush eX9_doDrops_92 kb_30 ?_
  refine pw_bipush eX9_doDrops_94 kb_6 ?_
  refine pw_iload_n eX9_doDrops_96 rfl ?_
  refine pw_imul eX9_doDrops_97 ?_
  refine pw_iadd eX9_doDrops_98 ?_
  refine pw_iload_n eX9_doDrops_99 rfl ?_
  refine pw_iadd eX9_doDrops_100 ?_
  refine pw_iload eX9_doDrops_101 rfl ?_
  refine pw_bipush eX9_doDrops_103 kb_6 ?_
  refine pw_icmp_ge (tgt := 126) eX9_doDrops_105 (by decide) (fun c => ?_) (fun c => ?_)
  · have h := hs_it c h
    refine pw_iconst eX9_doDrops_126 ki_0 ?_
    obtain ⟨σ5, g, h⟩ := hs_bind h
    refine pw_iast' eX9_doDrops_127 ai_68 g ?_
    refine pw_iinc eX9_doDrops_128 (by decide) rfl ki_1 rfl rfl ?_
    refine pw_goto (pc' := 54) eX9_doDrops_131 (by decide) ?_
    exact pw_le (hrec x1 x2 (x3 + 1) σ5 h) ⟨rfl, rfl, rfl, rfl, trivial⟩
  · have h := hs_ie c h
    refine pw_iload eX9_doDrops_108 rfl ?_
    refine pw_bipush eX9_doDrops_110 kb_6 ?_
    refine pw_icmp_ge (tgt := 126) eX9_doDrops_112 (by decide) (fun c => ?_) (fun c => ?_)
    · have h := hs_it c h
      refine pw_iconst eX9_doDrops_126 ki_0 ?_
      obtain ⟨σ6, g, h⟩ := hs_bind h
      refine pw_iast' eX9_doDrops_127 ai_68 g ?_
      refine pw_iinc eX9_doDrops_128 (by decide) rfl ki_1 rfl rfl ?_
      refine pw_goto (pc' := 54) eX9_doDrops_131 (by decide) ?_
      exact pw_le (hrec x1 x2 (x3 + 1) σ6 h) ⟨rfl, rfl, rfl, rfl, trivial⟩
    · have h := hs_ie c h
      refine pw_aload_n eX9_doDrops_115 rfl ?_
      refine pw_iload eX9_doDrops_116 rfl ?_
      refine pw_iload eX9_doDrops_118 rfl ?_
      obtain ⟨q7, g, h⟩ := hs_bind h
      refine pw_mV2i eX9_doDrops_120 mv_X9_85 ob_67 (s_X9_needOf g) (Nat.le_of_ble_eq_true rfl) ?_
      refine pw_goto (pc' := 127) eX9_doDrops_123 (by decide) ?_
      obtain ⟨σ8, g, h⟩ := hs_bind h
      refine pw_iast' eX9_doDrops_127 ai_68 g ?_
      refine pw_iinc eX9_doDrops_128 (by decide) rfl ki_1 rfl rfl ?_
      refine pw_goto (pc' := 54) eX9_doDrops_131 (by decide) ?_
      exact pw_le (hrec x1 x2 (x3 + 1) σ8 h) ⟨rfl, rfl, rfl, rfl, trivial⟩
def f_X9_doDrops_72 (rec : Int32 → Int32 → Int32 → HS → Option (Int32 × HS)) (x1 : Int32) (x2 : Int32) (x3 : Int32) (t0 : Int32) (σ : HS) : Option (Int32 × HS) :=
  if x1 ≤ x3 then
    f_X9_doDrops_86 rec x1 x2 x3 t0 (x3 + 1) σ
  else
    f_X9_doDrops_86 rec x1 x2 x3 t0 x3 σ
set_option maxRecDepth 20000 in
theorem w_X9_doDrops_72 {d : Nat} {p : Int32 × HS} {rec : Int32 → Int32 → Int32 → HS → Option (Int32 × HS)} (hrec : ∀ (x1 : Int32) (x2 : Int32) (x3 : Int32) (σ : HS), rec x1 x2 x3 σ = some p → PW RX9 cX9_doDrops 6 (hs_zM (d + 3) (some .int) (some (.int p.1), p.2)) 54 [some (.ref 67), some (.int x1), some (.int x2), some (.int x3), none, none] [] σ) : ∀ (x1 : Int32) (x2 : Int32) (x3 : Int32) (t0 : Int32) (σ : HS), f_X9_doDrops_72 rec x1 x2 x3 t0 σ = some p → PW RX9 cX9_doDrops 6 (hs_zM (d + 3) (some .int) (some (.int p.1), p.2)) 72 [some (.ref 67), some (.int x1), some (.int x2), some (.int x3), none, none] [.int t0] σ := by
  intro x1 x2 x3 t0 σ h
  rw [f_X9_doDrops_72] at h
  refine pw_istore eX9_doDrops_72 (by decide) rfl rfl ?_
  refine pw_iload_n eX9_doDrops_74 rfl ?_
  refine pw_iload_n eX9_doDrops_75 rfl ?_
  refine pw_icmp_ge (tgt := 83) eX9_doDrops_76 (by decide) (fun c => ?_) (fun c => ?_)
  · have h := hs_it c h
    refine pw_iload_n eX9_doDrops_83 rfl ?_
    refine pw_iconst eX9_doDrops_84 ki_1 ?_
    refine pw_iadd eX9_doDrops_85 ?_
    exact w_X9_doDrops_86 hrec x1 x2 x3 t0 (x3 + 1) σ h
  · have h := hs_ie c h
    refine pw_iload_n eX9_doDrops_79 rfl ?_
    refine pw_goto (pc' := 86) eX9_doDrops_80 (by decide) ?_
    exact w_X9_doDrops_86 hrec x1 x2 x3 t0 x3 σ h
def f_X9_doDrops_54 (k : Int32 → Int32 → HS → Option (Int32 × HS)) : Nat → Int32 → Int32 → Int32 → HS → Option (Int32 × HS)
  | 0, _, _, _, _ => none
  | n + 1, x1, x2, x3, σ =>
    if (6 : Int32) ≤ x3 then
      k x1 x2 σ
    else
      if x1 ≤ x2 then
        f_X9_doDrops_72 (f_X9_doDrops_54 k n) x1 x2 x3 (x2 + 1) σ
      else
        f_X9_doDrops_72 (f_X9_doDrops_54 k n) x1 x2 x3 x2 σ
set_option maxRecDepth 20000 in
theorem w_X9_doDrops_54 {d : Nat} {p : Int32 × HS} {k : Int32 → Int32 → HS → Option (Int32 × HS)} (hk : ∀ (x1 : Int32) (x2 : Int32) (σ : HS), k x1 x2 σ = some p → PW RX9 cX9_doDrops 6 (hs_zM (d + 3) (some .int) (some (.int p.1), p.2)) 134 [some (.ref 67), some (.int x1), some (.int x2), none, none, none] [] σ) : ∀ (n : Nat) (x1 : Int32) (x2 : Int32) (x3 : Int32) (σ : HS), f_X9_doDrops_54 k n x1 x2 x3 σ = some p → PW RX9 cX9_doDrops 6 (hs_zM (d + 3) (some .int) (some (.int p.1), p.2)) 54 [some (.ref 67), some (.int x1), some (.int x2), some (.int x3), none, none] [] σ := by
  intro n
  induction n with
  | zero =>
    intro x1 x2 x3 σ h
    rw [f_X9_doDrops_54] at h
    cases h
  | succ n ih =>
    intro x1 x2 x3 σ h
    rw [f_X9_doDrops_54] at h
    refine pw_iload_n eX9_doDrops_54 rfl ?_
    refine pw_bipush eX9_doDrops_55 kb_6 ?_
    refine pw_icmp_ge (tgt := 134) eX9_doDrops_57 (by decide) (fun c => ?_) (fun c => ?_)
    · have h := hs_it c h
      exact pw_le (hk x1 x2 σ h) ⟨rfl, rfl, rfl, trivial⟩
    · have h := hs_ie c h
      refine pw_iload_n eX9_doDrops_60 rfl ?_
      refine pw_iload_n eX9_doDrops_61 rfl ?_
      refine pw_icmp_ge (tgt := 69) eX9_doDrops_62 (by decide) (fun c => ?_) (fun c => ?_)
      · have h := hs_it c h
        refine pw_iload_n eX9_doDrops_69 rfl ?_
        refine pw_iconst eX9_doDrops_70 ki_1 ?_
        refine pw_iadd eX9_doDrops_71 ?_
        exact w_X9_doDrops_72 ih x1 x2 x3 (x2 + 1) σ h
      · have h := hs_ie c h
        refine pw_iload_n eX9_doDrops_65 rfl ?_
        refine pw_goto (pc' := 72) eX9_doDrops_66 (by decide) ?_
        exact w_X9_doDrops_72 ih x1 x2 x3 x2 σ h
def f_X9_doDrops_46 : Nat → Int32 → Int32 → HS → Option (Int32 × HS)
  | 0, _, _, _ => none
  | n + 1, x1, x2, σ =>
    if (6 : Int32) ≤ x2 then
      (ldI (σ.1 68) 66 23).bind fun v2 =>
      (stI σ 68 66 23 (v2 - 1)).bind fun σ3 =>
      (ldI (σ3.1 68) 66 23).bind fun v4 =>
      some (v4, σ3)
    else
      f_X9_doDrops_54 (fun e9 e10 σ11 =>
        f_X9_doDrops_46 n e9 (e10 + 1) σ11) FU x1 x2 0 σ
set_option maxRecDepth 20000 in
theorem w_X9_doDrops_46 {d : Nat} {p : Int32 × HS} : ∀ (n : Nat) (x1 : Int32) (x2 : Int32) (σ : HS), f_X9_doDrops_46 n x1 x2 σ = some p → PW RX9 cX9_doDrops 6 (hs_zM (d + 3) (some .int) (some (.int p.1), p.2)) 46 [some (.ref 67), some (.int x1), some (.int x2), none, none, none] [] σ := by
  intro n
  induction n with
  | zero =>
    intro x1 x2 σ h
    rw [f_X9_doDrops_46] at h
    cases h
  | succ n ih =>
    intro x1 x2 σ h
    rw [f_X9_doDrops_46] at h
    refine pw_iload_n eX9_doDrops_46 rfl ?_
    refine pw_bipush eX9_doDrops_47 kb_6 ?_
    refine pw_icmp_ge (tgt := 140) eX9_doDrops_49 (by decide) (fun c => ?_) (fun c => ?_)
    · have h := hs_it c h
      refine pw_aload_n eX9_doDrops_140 rfl ?_
      refine pw_getR (r := 68) eX9_doDrops_141 fl_X9_7 ob_67 rfl ?_
      refine pw_bipush eX9_doDrops_144 kb_23 ?_
      refine pw_dup2 eX9_doDrops_146 rfl rfl ?_
      obtain ⟨v2, g, h⟩ := hs_bind h
      refine pw_iald' eX9_doDrops_147 ai_68 g ?_
      refine pw_iconst eX9_doDrops_148 ki_1 ?_
      refine pw_isub eX9_doDrops_149 ?_
      obtain ⟨σ3, g, h⟩ := hs_bind h
      refine pw_iast' eX9_doDrops_150 ai_68 g ?_
      refine pw_aload_n eX9_doDrops_151 rfl ?_
      refine pw_getR (r := 68) eX9_doDrops_152 fl_X9_7 ob_67 rfl ?_
      refine pw_bipush eX9_doDrops_155 kb_23 ?_
      obtain ⟨v4, g, h⟩ := hs_bind h
      refine pw_iald' eX9_doDrops_157 ai_68 g ?_
      exact pw_iret' eX9_doDrops_158 h
    · have h := hs_ie c h
      refine pw_iconst eX9_doDrops_52 ki_0 ?_
      refine pw_istore_n eX9_doDrops_53 rfl (by decide) rfl rfl ?_
      refine w_X9_doDrops_54 (fun e9 e10 σ11 h => ?_) FU x1 x2 0 σ h
      refine pw_iinc eX9_doDrops_134 (by decide) rfl ki_1 rfl rfl ?_
      refine pw_goto (pc' := 46) eX9_doDrops_137 (by decide) ?_
      exact ih e9 (e10 + 1) σ11 h
def f_X9_doDrops_13 : Nat → Int32 → Int32 → HS → Option (Int32 × HS)
  | 0, _, _, _ => none
  | n + 1, x1, x2, σ =>
    if (5 : Int32) ≤ x2 then
      f_X9_doDrops_46 FU x1 0 σ
    else
      (ldI (σ.1 68) 66 (((24 : Int32) + x2) + 1)).bind fun v12 =>
      (stI σ 68 66 ((24 : Int32) + x2) v12).bind fun σ13 =>
      f_X9_doDrops_13 n x1 (x2 + 1) σ13
set_option maxRecDepth 20000 in
theorem w_X9_doDrops_13 {d : Nat} {p : Int32 × HS} : ∀ (n : Nat) (x1 : Int32) (x2 : Int32) (σ : HS), f_X9_doDrops_13 n x1 x2 σ = some p → PW RX9 cX9_doDrops 6 (hs_zM (d + 3) (some .int) (some (.int p.1), p.2)) 13 [some (.ref 67), some (.int x1), some (.int x2), none, none, none] [] σ := by
  intro n
  induction n with
  | zero =>
    intro x1 x2 σ h
    rw [f_X9_doDrops_13] at h
    cases h
  | succ n ih =>
    intro x1 x2 σ h
    rw [f_X9_doDrops_13] at h
    refine pw_iload_n eX9_doDrops_13 rfl ?_
    refine pw_iconst eX9_doDrops_14 ki_5 ?_
    refine pw_icmp_ge (tgt := 44) eX9_doDrops_15 (by decide) (fun c => ?_) (fun c => ?_)
    · have h := hs_it c h
      refine pw_iconst eX9_doDrops_44 ki_0 ?_
      refine pw_istore_n eX9_doDrops_45 rfl (by decide) rfl rfl ?_
      exact w_X9_doDrops_46 FU x1 0 σ h
    · have h := hs_ie c h
      refine pw_aload_n eX9_doDrops_18 rfl ?_
      refine pw_getR (r := 68) eX9_doDrops_19 fl_X9_7 ob_67 rfl ?_
      refine pw_bipush eX9_doDrops_22 kb_24 ?_
      refine pw_iload_n eX9_doDrops_24 rfl ?_
      refine pw_iadd eX9_doDrops_25 ?_
      refine pw_aload_n eX9_doDrops_26 rfl ?_
      refine pw_getR (r := 68) eX9_doDrops_27 fl_X9_7 ob_67 rfl ?_
      refine pw_bipush eX9_doDrops_30 kb_24 ?_
      refine pw_iload_n eX9_doDrops_32 rfl ?_
      refine pw_iadd eX9_doDrops_33 ?_
      refine pw_iconst eX9_doDrops_34 ki_1 ?_
      refine pw_iadd eX9_doDrops_35 ?_
      obtain ⟨v12, g, h⟩ := hs_bind h
      refine pw_iald' eX9_doDrops_36 ai_68 g ?_
      obtain ⟨σ13, g, h⟩ := hs_bind h
      refine pw_iast' eX9_doDrops_37 ai_68 g ?_
      refine pw_iinc eX9_doDrops_38 (by decide) rfl ki_1 rfl rfl ?_
      refine pw_goto (pc' := 13) eX9_doDrops_41 (by decide) ?_
      exact ih x1 (x2 + 1) σ13 h
def f_X9_doDrops (x1 : Int32) (σ : HS) : Option (Int32 × HS) :=
  (f_X9_isOne x1 σ).bind fun q1 =>
  if q1.1 = 0 then
    some ((-2), q1.2)
  else
    f_X9_doDrops_13 FU x1 x1 q1.2
set_option maxRecDepth 20000 in
theorem s_X9_doDrops {d : Nat} {x1 : Int32} {σ : HS} {p : Int32 × HS} (h : f_X9_doDrops x1 σ = some p) : hs_Spec (d + 3) yX9_doDrops cX9_doDrops 6 (some .int) [.ref 67, .int x1] σ (some (.int p.1), p.2) := by
  refine hs_spec' (by decide +kernel) rfl (Nat.le_of_ble_eq_true rfl) ?_
  show PW RX9 cX9_doDrops 6 (hs_zM (d + 3) (some .int) (some (.int p.1), p.2)) 0 [some (.ref 67), some (.int x1), none, none, none, none] [] σ
  rw [f_X9_doDrops] at h
  refine pw_aload_n eX9_doDrops_0 rfl ?_
  refine pw_iload_n eX9_doDrops_1 rfl ?_
  obtain ⟨q1, g, h⟩ := hs_bind h
  refine pw_mV1i eX9_doDrops_2 mv_X9_96 ob_67 (s_X9_isOne g) (Nat.le_of_ble_eq_true rfl) ?_
  refine pw_if_ne (tgt := 11) eX9_doDrops_5 (by decide) (fun c => ?_) (fun c => ?_)
  · have h := hs_ie c h
    refine pw_iload_n eX9_doDrops_11 rfl ?_
    refine pw_istore_n eX9_doDrops_12 rfl (by decide) rfl rfl ?_
    exact w_X9_doDrops_13 FU x1 x1 q1.2 h
  · have h := hs_it c h
    refine pw_bipush eX9_doDrops_8 kb_m2 ?_
    exact pw_iret' eX9_doDrops_10 h

def f_X9_kind (x1 : Int32) (x2 : Int32) (x3 : Int32) (x4 : Int32) (σ : HS) : Option (Int32 × HS) :=
  (f_X9_hold σ).bind fun σ1 =>
  (f_X9_doKind x1 x2 x3 x4 σ1).bind fun q2 =>
  (f_X9_ends q2.1 q2.2).bind fun q3 =>
  some (q3.1, q3.2)
set_option maxRecDepth 20000 in
theorem s_X9_kind {d : Nat} {x1 : Int32} {x2 : Int32} {x3 : Int32} {x4 : Int32} {σ : HS} {p : Int32 × HS} (h : f_X9_kind x1 x2 x3 x4 σ = some p) : hs_Spec (d + 3) yX9_kind cX9_kind 5 (some .int) [.ref 67, .int x1, .int x2, .int x3, .int x4] σ (some (.int p.1), p.2) := by
  refine hs_spec' (by decide +kernel) rfl (Nat.le_of_ble_eq_true rfl) ?_
  show PW RX9 cX9_kind 5 (hs_zM (d + 3) (some .int) (some (.int p.1), p.2)) 0 [some (.ref 67), some (.int x1), some (.int x2), some (.int x3), some (.int x4)] [] σ
  rw [f_X9_kind] at h
  refine pw_aload_n eX9_kind_0 rfl ?_
  obtain ⟨σ1, g, h⟩ := hs_bind h
  refine pw_mV0v eX9_kind_1 mv_X9_102 ob_67 (s_X9_hold g) (Nat.le_of_ble_eq_true rfl) ?_
  refine pw_aload_n eX9_kind_4 rfl ?_
  refine pw_aload_n eX9_kind_5 rfl ?_
  refine pw_iload_n eX9_kind_6 rfl ?_
  refine pw_iload_n eX9_kind_7 rfl ?_
  refine pw_iload_n eX9_kind_8 rfl ?_
  refine pw_iload eX9_kind_9 rfl ?_
  obtain ⟨q2, g, h⟩ := hs_bind h
  refine pw_mV4i eX9_kind_11 mv_X9_105 ob_67 (s_X9_doKind g) (Nat.le_of_ble_eq_true rfl) ?_
  obtain ⟨q3, g, h⟩ := hs_bind h
  refine pw_mV1i eX9_kind_14 mv_X9_109 ob_67 (s_X9_ends g) (Nat.le_of_ble_eq_true rfl) ?_
  exact pw_iret' eX9_kind_17 h

def f_X9_sets (x1 : Int32) (x2 : Int32) (σ : HS) : Option (Int32 × HS) :=
  (f_X9_hold σ).bind fun σ1 =>
  (f_X9_doSets x1 x2 σ1).bind fun q2 =>
  (f_X9_ends q2.1 q2.2).bind fun q3 =>
  some (q3.1, q3.2)
set_option maxRecDepth 20000 in
theorem s_X9_sets {d : Nat} {x1 : Int32} {x2 : Int32} {σ : HS} {p : Int32 × HS} (h : f_X9_sets x1 x2 σ = some p) : hs_Spec (d + 3) yX9_sets cX9_sets 3 (some .int) [.ref 67, .int x1, .int x2] σ (some (.int p.1), p.2) := by
  refine hs_spec' (by decide +kernel) rfl (Nat.le_of_ble_eq_true rfl) ?_
  show PW RX9 cX9_sets 3 (hs_zM (d + 3) (some .int) (some (.int p.1), p.2)) 0 [some (.ref 67), some (.int x1), some (.int x2)] [] σ
  rw [f_X9_sets] at h
  refine pw_aload_n eX9_sets_0 rfl ?_
  obtain ⟨σ1, g, h⟩ := hs_bind h
  refine pw_mV0v eX9_sets_1 mv_X9_102 ob_67 (s_X9_hold g) (Nat.le_of_ble_eq_true rfl) ?_
  refine pw_aload_n eX9_sets_4 rfl ?_
  refine pw_aload_n eX9_sets_5 rfl ?_
  refine pw_iload_n eX9_sets_6 rfl ?_
  refine pw_iload_n eX9_sets_7 rfl ?_
  obtain ⟨q2, g, h⟩ := hs_bind h
  refine pw_mV2i eX9_sets_8 mv_X9_112 ob_67 (s_X9_doSets g) (Nat.le_of_ble_eq_true rfl) ?_
  obtain ⟨q3, g, h⟩ := hs_bind h
  refine pw_mV1i eX9_sets_11 mv_X9_109 ob_67 (s_X9_ends g) (Nat.le_of_ble_eq_true rfl) ?_
  exact pw_iret' eX9_sets_14 h

def f_X9_instruction (x1 : Int32) (σ : HS) : Option (Int32 × HS) :=
  (f_X9_hold σ).bind fun σ1 =>
  (f_X9_doInstruction x1 σ1).bind fun q2 =>
  (f_X9_ends q2.1 q2.2).bind fun q3 =>
  some (q3.1, q3.2)
set_option maxRecDepth 20000 in
theorem s_X9_instruction {d : Nat} {x1 : Int32} {σ : HS} {p : Int32 × HS} (h : f_X9_instruction x1 σ = some p) : hs_Spec (d + 4) yX9_instruction cX9_instruction 2 (some .int) [.ref 67, .int x1] σ (some (.int p.1), p.2) := by
  refine hs_spec' (by decide +kernel) rfl (Nat.le_of_ble_eq_true rfl) ?_
  show PW RX9 cX9_instruction 2 (hs_zM (d + 4) (some .int) (some (.int p.1), p.2)) 0 [some (.ref 67), some (.int x1)] [] σ
  rw [f_X9_instruction] at h
  refine pw_aload_n eX9_instruction_0 rfl ?_
  obtain ⟨σ1, g, h⟩ := hs_bind h
  refine pw_mV0v eX9_instruction_1 mv_X9_102 ob_67 (s_X9_hold g) (Nat.le_of_ble_eq_true rfl) ?_
  refine pw_aload_n eX9_instruction_4 rfl ?_
  refine pw_aload_n eX9_instruction_5 rfl ?_
  refine pw_iload_n eX9_instruction_6 rfl ?_
  obtain ⟨q2, g, h⟩ := hs_bind h
  refine pw_mV1i eX9_instruction_7 mv_X9_115 ob_67 (s_X9_doInstruction g) (Nat.le_of_ble_eq_true rfl) ?_
  obtain ⟨q3, g, h⟩ := hs_bind h
  refine pw_mV1i eX9_instruction_10 mv_X9_109 ob_67 (s_X9_ends g) (Nat.le_of_ble_eq_true rfl) ?_
  exact pw_iret' eX9_instruction_13 h

def f_X9_needs (x1 : Int32) (x2 : Int32) (x3 : Int32) (σ : HS) : Option (Int32 × HS) :=
  (f_X9_hold σ).bind fun σ1 =>
  (f_X9_doNeeds x1 x2 x3 σ1).bind fun q2 =>
  (f_X9_ends q2.1 q2.2).bind fun q3 =>
  some (q3.1, q3.2)
set_option maxRecDepth 20000 in
theorem s_X9_needs {d : Nat} {x1 : Int32} {x2 : Int32} {x3 : Int32} {σ : HS} {p : Int32 × HS} (h : f_X9_needs x1 x2 x3 σ = some p) : hs_Spec (d + 4) yX9_needs cX9_needs 4 (some .int) [.ref 67, .int x1, .int x2, .int x3] σ (some (.int p.1), p.2) := by
  refine hs_spec' (by decide +kernel) rfl (Nat.le_of_ble_eq_true rfl) ?_
  show PW RX9 cX9_needs 4 (hs_zM (d + 4) (some .int) (some (.int p.1), p.2)) 0 [some (.ref 67), some (.int x1), some (.int x2), some (.int x3)] [] σ
  rw [f_X9_needs] at h
  refine pw_aload_n eX9_needs_0 rfl ?_
  obtain ⟨σ1, g, h⟩ := hs_bind h
  refine pw_mV0v eX9_needs_1 mv_X9_102 ob_67 (s_X9_hold g) (Nat.le_of_ble_eq_true rfl) ?_
  refine pw_aload_n eX9_needs_4 rfl ?_
  refine pw_aload_n eX9_needs_5 rfl ?_
  refine pw_iload_n eX9_needs_6 rfl ?_
  refine pw_iload_n eX9_needs_7 rfl ?_
  refine pw_iload_n eX9_needs_8 rfl ?_
  obtain ⟨q2, g, h⟩ := hs_bind h
  refine pw_mV3i eX9_needs_9 mv_X9_118 ob_67 (s_X9_doNeeds g) (Nat.le_of_ble_eq_true rfl) ?_
  obtain ⟨q3, g, h⟩ := hs_bind h
  refine pw_mV1i eX9_needs_12 mv_X9_109 ob_67 (s_X9_ends g) (Nat.le_of_ble_eq_true rfl) ?_
  exact pw_iret' eX9_needs_15 h

def f_X9_drops (x1 : Int32) (σ : HS) : Option (Int32 × HS) :=
  (f_X9_hold σ).bind fun σ1 =>
  (f_X9_doDrops x1 σ1).bind fun q2 =>
  (f_X9_ends q2.1 q2.2).bind fun q3 =>
  some (q3.1, q3.2)
set_option maxRecDepth 20000 in
theorem s_X9_drops {d : Nat} {x1 : Int32} {σ : HS} {p : Int32 × HS} (h : f_X9_drops x1 σ = some p) : hs_Spec (d + 4) yX9_drops cX9_drops 2 (some .int) [.ref 67, .int x1] σ (some (.int p.1), p.2) := by
  refine hs_spec' (by decide +kernel) rfl (Nat.le_of_ble_eq_true rfl) ?_
  show PW RX9 cX9_drops 2 (hs_zM (d + 4) (some .int) (some (.int p.1), p.2)) 0 [some (.ref 67), some (.int x1)] [] σ
  rw [f_X9_drops] at h
  refine pw_aload_n eX9_drops_0 rfl ?_
  obtain ⟨σ1, g, h⟩ := hs_bind h
  refine pw_mV0v eX9_drops_1 mv_X9_102 ob_67 (s_X9_hold g) (Nat.le_of_ble_eq_true rfl) ?_
  refine pw_aload_n eX9_drops_4 rfl ?_
  refine pw_aload_n eX9_drops_5 rfl ?_
  refine pw_iload_n eX9_drops_6 rfl ?_
  obtain ⟨q2, g, h⟩ := hs_bind h
  refine pw_mV1i eX9_drops_7 mv_X9_122 ob_67 (s_X9_doDrops g) (Nat.le_of_ble_eq_true rfl) ?_
  obtain ⟨q3, g, h⟩ := hs_bind h
  refine pw_mV1i eX9_drops_10 mv_X9_109 ob_67 (s_X9_ends g) (Nat.le_of_ble_eq_true rfl) ?_
  exact pw_iret' eX9_drops_13 h
