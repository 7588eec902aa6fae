def f_X4_append (x1 : Int32) (σ : HS) : Option (Int32 × HS) :=
  if (120 : Int32) ≤ (σ.1 62 3) then
    some ((σ.1 62 3), σ)
  else
    (stI σ 63 120 (σ.1 62 3) x1).bind fun σ1 =>
    some (((sI σ1 62 3 ((σ1.1 62 3) + 1)).1 62 3), (sI σ1 62 3 ((σ1.1 62 3) + 1)))
set_option maxRecDepth 20000 in
theorem s_X4_append {d : Nat} {x1 : Int32} {σ : HS} {p : Int32 × HS} (h : f_X4_append x1 σ = some p) : hs_Spec (d + 1) yX4_append cX4_append 2 (some .int) [.ref 62, .int x1] σ (some (.int p.1), p.2) := by
  refine hs_spec' (by decide +kernel) rfl (Nat.le_of_ble_eq_true rfl) ?_
  show PW RX4 cX4_append 2 (hs_zM (d + 1) (some .int) (some (.int p.1), p.2)) 0 [some (.ref 62), some (.int x1)] [] σ
  rw [f_X4_append] at h
  refine pw_aload_n eX4_append_0 rfl ?_
  refine pw_getI eX4_append_1 fl_X4_21 ob_62 rfl ?_
  refine pw_bipush eX4_append_4 kb_120 ?_
  refine pw_icmp_ge (tgt := 29) eX4_append_6 (by decide) (fun c => ?_) (fun c => ?_)
  · have h := hs_it c h
    refine pw_aload_n eX4_append_29 rfl ?_
    refine pw_getI eX4_append_30 fl_X4_21 ob_62 rfl ?_
    exact pw_iret' eX4_append_33 h
  · have h := hs_ie c h
    refine pw_aload_n eX4_append_9 rfl ?_
    refine pw_getR (r := 63) eX4_append_10 fl_X4_9 ob_62 rfl ?_
    refine pw_aload_n eX4_append_13 rfl ?_
    refine pw_getI eX4_append_14 fl_X4_21 ob_62 rfl ?_
    refine pw_iload_n eX4_append_17 rfl ?_
    obtain ⟨σ1, g, h⟩ := hs_bind h
    refine pw_iast' eX4_append_18 ai_63 g ?_
    refine pw_aload_n eX4_append_19 rfl ?_
    refine pw_dup eX4_append_20 rfl ?_
    refine pw_getI eX4_append_21 fl_X4_21 ob_62 rfl ?_
    refine pw_iconst eX4_append_24 ki_1 ?_
    refine pw_iadd eX4_append_25 ?_
    refine pw_putI eX4_append_26 fw_X4_21 ob_62 rfl ?_
    refine pw_aload_n eX4_append_29 rfl ?_
    refine pw_getI eX4_append_30 fl_X4_21 ob_62 rfl ?_
    exact pw_iret' eX4_append_33 h

def f_X4_empty (σ : HS) : Option (Int32 × HS) :=
  some ((σ.1 62 3), (sI σ 62 3 0))
set_option maxRecDepth 20000 in
theorem s_X4_empty {d : Nat} {σ : HS} {p : Int32 × HS} (h : f_X4_empty σ = some p) : hs_Spec (d + 1) yX4_empty cX4_empty 2 (some .int) [.ref 62] σ (some (.int p.1), p.2) := by
  refine hs_spec' (by decide +kernel) rfl (Nat.le_of_ble_eq_true rfl) ?_
  show PW RX4 cX4_empty 2 (hs_zM (d + 1) (some .int) (some (.int p.1), p.2)) 0 [some (.ref 62), none] [] σ
  rw [f_X4_empty] at h
  refine pw_aload_n eX4_empty_0 rfl ?_
  refine pw_getI eX4_empty_1 fl_X4_21 ob_62 rfl ?_
  refine pw_istore_n eX4_empty_4 rfl (by decide) rfl rfl ?_
  refine pw_aload_n eX4_empty_5 rfl ?_
  refine pw_iconst eX4_empty_6 ki_0 ?_
  refine pw_putI eX4_empty_7 fw_X4_21 ob_62 rfl ?_
  refine pw_iload_n eX4_empty_10 rfl ?_
  exact pw_iret' eX4_empty_11 h

def f_X4_skipBlanks_0 : Nat → HS → Option (HS)
  | 0, _ => none
  | n + 1, σ =>
    if (σ.1 62 3) ≤ (σ.1 62 5) then
      some σ
    else
      (ldI (σ.1 63) 120 (σ.1 62 5)).bind fun v1 =>
      if v1 = 32 then
        f_X4_skipBlanks_0 n (sI σ 62 5 ((σ.1 62 5) + 1))
      else
        some σ
set_option maxRecDepth 20000 in
theorem w_X4_skipBlanks_0 {d : Nat} {p : HS} : ∀ (n : Nat) (σ : HS), f_X4_skipBlanks_0 n σ = some p → PW RX4 cX4_skipBlanks 1 (hs_zM (d + 1) none (none, p)) 0 [some (.ref 62)] [] σ := by
  intro n
  induction n with
  | zero =>
    intro σ h
    rw [f_X4_skipBlanks_0] at h
    cases h
  | succ n ih =>
    intro σ h
    rw [f_X4_skipBlanks_0] at h
    refine pw_aload_n eX4_skipBlanks_0 rfl ?_
    refine pw_getI eX4_skipBlanks_1 fl_X4_28 ob_62 rfl ?_
    refine pw_aload_n eX4_skipBlanks_4 rfl ?_
    refine pw_getI eX4_skipBlanks_5 fl_X4_21 ob_62 rfl ?_
    refine pw_icmp_ge (tgt := 38) eX4_skipBlanks_8 (by decide) (fun c => ?_) (fun c => ?_)
    · have h := hs_it c h
      exact pw_vret' eX4_skipBlanks_38 h
    · have h := hs_ie c h
      refine pw_aload_n eX4_skipBlanks_11 rfl ?_
      refine pw_getR (r := 63) eX4_skipBlanks_12 fl_X4_9 ob_62 rfl ?_
      refine pw_aload_n eX4_skipBlanks_15 rfl ?_
      refine pw_getI eX4_skipBlanks_16 fl_X4_28 ob_62 rfl ?_
      obtain ⟨v1, g, h⟩ := hs_bind h
      refine pw_iald' eX4_skipBlanks_19 ai_63 g ?_
      refine pw_bipush eX4_skipBlanks_20 kb_32 ?_
      refine pw_icmp_ne (tgt := 38) eX4_skipBlanks_22 (by decide) (fun c => ?_) (fun c => ?_)
      · have h := hs_ie c h
        exact pw_vret' eX4_skipBlanks_38 h
      · have h := hs_it c h
        refine pw_aload_n eX4_skipBlanks_25 rfl ?_
        refine pw_dup eX4_skipBlanks_26 rfl ?_
        refine pw_getI eX4_skipBlanks_27 fl_X4_28 ob_62 rfl ?_
        refine pw_iconst eX4_skipBlanks_30 ki_1 ?_
        refine pw_iadd eX4_skipBlanks_31 ?_
        refine pw_putI eX4_skipBlanks_32 fw_X4_28 ob_62 rfl ?_
        refine pw_goto (pc' := 0) eX4_skipBlanks_35 (by decide) ?_
        exact ih (sI σ 62 5 ((σ.1 62 5) + 1)) h
def f_X4_skipBlanks (σ : HS) : Option (HS) :=
  f_X4_skipBlanks_0 FU σ
set_option maxRecDepth 20000 in
theorem s_X4_skipBlanks {d : Nat} {σ : HS} {p : HS} (h : f_X4_skipBlanks σ = some p) : hs_Spec (d + 1) yX4_skipBlanks cX4_skipBlanks 1 none [.ref 62] σ (none, p) := by
  refine hs_spec' (by decide +kernel) rfl (Nat.le_of_ble_eq_true rfl) ?_
  show PW RX4 cX4_skipBlanks 1 (hs_zM (d + 1) none (none, p)) 0 [some (.ref 62)] [] σ
  rw [f_X4_skipBlanks] at h
  exact w_X4_skipBlanks_0 FU σ h

def f_X4_byteHere (σ : HS) : Option (Int32 × HS) :=
  if (σ.1 62 3) ≤ (σ.1 62 5) then
    some ((-1), σ)
  else
    (ldI (σ.1 63) 120 (σ.1 62 5)).bind fun v1 =>
    some (v1, σ)
set_option maxRecDepth 20000 in
theorem s_X4_byteHere {d : Nat} {σ : HS} {p : Int32 × HS} (h : f_X4_byteHere σ = some p) : hs_Spec (d + 1) yX4_byteHere cX4_byteHere 1 (some .int) [.ref 62] σ (some (.int p.1), p.2) := by
  refine hs_spec' (by decide +kernel) rfl (Nat.le_of_ble_eq_true rfl) ?_
  show PW RX4 cX4_byteHere 1 (hs_zM (d + 1) (some .int) (some (.int p.1), p.2)) 0 [some (.ref 62)] [] σ
  rw [f_X4_byteHere] at h
  refine pw_aload_n eX4_byteHere_0 rfl ?_
  refine pw_getI eX4_byteHere_1 fl_X4_28 ob_62 rfl ?_
  refine pw_aload_n eX4_byteHere_4 rfl ?_
  refine pw_getI eX4_byteHere_5 fl_X4_21 ob_62 rfl ?_
  refine pw_icmp_ge (tgt := 23) eX4_byteHere_8 (by decide) (fun c => ?_) (fun c => ?_)
  · have h := hs_it c h
    refine pw_iconst eX4_byteHere_23 ki_m1 ?_
    exact pw_iret' eX4_byteHere_24 h
  · have h := hs_ie c h
    refine pw_aload_n eX4_byteHere_11 rfl ?_
    refine pw_getR (r := 63) eX4_byteHere_12 fl_X4_9 ob_62 rfl ?_
    refine pw_aload_n eX4_byteHere_15 rfl ?_
    refine pw_getI eX4_byteHere_16 fl_X4_28 ob_62 rfl ?_
    obtain ⟨v1, g, h⟩ := hs_bind h
    refine pw_iald' eX4_byteHere_19 ai_63 g ?_
    refine pw_goto (pc' := 24) eX4_byteHere_20 (by decide) ?_
    exact pw_iret' eX4_byteHere_24 h

def f_X4_numbersBehind (x0 : Int32) (σ : HS) : Option (Int32 × HS) :=
  if x0 = 97 then
    some (2, σ)
  else if x0 = 105 then
    some (1, σ)
  else if x0 = 107 then
    some (4, σ)
  else if x0 = 110 then
    some (2, σ)
  else if x0 = 114 then
    some (1, σ)
  else if x0 = 119 then
    some (1, σ)
  else if x0 = 120 then
    some (1, σ)
  else 
    some (0, σ)
set_option maxRecDepth 20000 in
theorem s_X4_numbersBehind {d : Nat} {x0 : Int32} {σ : HS} {p : Int32 × HS} (h : f_X4_numbersBehind x0 σ = some p) : hs_Spec (d + 1) yX4_numbersBehind cX4_numbersBehind 1 (some .int) [.int x0] σ (some (.int p.1), p.2) := by
  refine hs_spec' (by decide +kernel) rfl (Nat.le_of_ble_eq_true rfl) ?_
  show PW RX4 cX4_numbersBehind 1 (hs_zM (d + 1) (some .int) (some (.int p.1), p.2)) 0 [some (.int x0)] [] σ
  rw [f_X4_numbersBehind] at h
  refine pw_iload_n eX4_numbersBehind_0 rfl ?_
  by_cases c0 : x0 = 97
  · have h := hs_it c0 h
    refine pw_tin (pc' := 114) eX4_numbersBehind_1 (by rw [c0]; decide) (by rw [c0]; decide) (by rw [c0]; rfl) (by decide) ?_
    refine pw_iconst eX4_numbersBehind_114 ki_2 ?_
    exact pw_iret' eX4_numbersBehind_115 h
  have h := hs_ie c0 h
  by_cases c1 : x0 = 105
  · have h := hs_it c1 h
    refine pw_tin (pc' := 116) eX4_numbersBehind_1 (by rw [c1]; decide) (by rw [c1]; decide) (by rw [c1]; rfl) (by decide) ?_
    refine pw_iconst eX4_numbersBehind_116 ki_1 ?_
    exact pw_iret' eX4_numbersBehind_117 h
  have h := hs_ie c1 h
  by_cases c2 : x0 = 107
  · have h := hs_it c2 h
    refine pw_tin (pc' := 112) eX4_numbersBehind_1 (by rw [c2]; decide) (by rw [c2]; decide) (by rw [c2]; rfl) (by decide) ?_
    refine pw_iconst eX4_numbersBehind_112 ki_4 ?_
    exact pw_iret' eX4_numbersBehind_113 h
  have h := hs_ie c2 h
  by_cases c3 : x0 = 110
  · have h := hs_it c3 h
    refine pw_tin (pc' := 114) eX4_numbersBehind_1 (by rw [c3]; decide) (by rw [c3]; decide) (by rw [c3]; rfl) (by decide) ?_
    refine pw_iconst eX4_numbersBehind_114 ki_2 ?_
    exact pw_iret' eX4_numbersBehind_115 h
  have h := hs_ie c3 h
  by_cases c4 : x0 = 114
  · have h := hs_it c4 h
    refine pw_tin (pc' := 116) eX4_numbersBehind_1 (by rw [c4]; decide) (by rw [c4]; decide) (by rw [c4]; rfl) (by decide) ?_
    refine pw_iconst eX4_numbersBehind_116 ki_1 ?_
    exact pw_iret' eX4_numbersBehind_117 h
  have h := hs_ie c4 h
  by_cases c5 : x0 = 119
  · have h := hs_it c5 h
    refine pw_tin (pc' := 116) eX4_numbersBehind_1 (by rw [c5]; decide) (by rw [c5]; decide) (by rw [c5]; rfl) (by decide) ?_
    refine pw_iconst eX4_numbersBehind_116 ki_1 ?_
    exact pw_iret' eX4_numbersBehind_117 h
  have h := hs_ie c5 h
  by_cases c6 : x0 = 120
  · have h := hs_it c6 h
    refine pw_tin (pc' := 116) eX4_numbersBehind_1 (by rw [c6]; decide) (by rw [c6]; decide) (by rw [c6]; rfl) (by decide) ?_
    refine pw_iconst eX4_numbersBehind_116 ki_1 ?_
    exact pw_iret' eX4_numbersBehind_117 h
  have h := hs_ie c6 h
  refine hs_cut ?_ (fun pd => ?_) (P := PW RX4 cX4_numbersBehind 1 (hs_zM (d + 1) (some .int) (some (.int p.1), p.2)) 118 [some (.int x0)] [] σ)
  rotate_left
  · rcases hs_sw x0 97 120 with o | o | o
    · exact pw_tout eX4_numbersBehind_1 (Or.inl o) (by decide) pd
    · exact pw_tout eX4_numbersBehind_1 (Or.inr o) (by decide) pd
    · have d0 := hs_nl (z := 97) c0 (by decide); have d1 := hs_nl (z := 105) c1 (by decide); have d2 := hs_nl (z := 107) c2 (by decide); have d3 := hs_nl (z := 110) c3 (by decide); have d4 := hs_nl (z := 114) c4 (by decide); have d5 := hs_nl (z := 119) c5 (by decide); have d6 := hs_nl (z := 120) c6 (by decide); skip
      have ho : (x0).toInt = 98 ∨ (x0).toInt = 99 ∨ (x0).toInt = 100 ∨ (x0).toInt = 101 ∨ (x0).toInt = 102 ∨ (x0).toInt = 103 ∨ (x0).toInt = 104 ∨ (x0).toInt = 106 ∨ (x0).toInt = 108 ∨ (x0).toInt = 109 ∨ (x0).toInt = 111 ∨ (x0).toInt = 112 ∨ (x0).toInt = 113 ∨ (x0).toInt = 115 ∨ (x0).toInt = 116 ∨ (x0).toInt = 117 ∨ (x0).toInt = 118 := by omega
      rcases ho with ho | ho | ho | ho | ho | ho | ho | ho | ho | ho | ho | ho | ho | ho | ho | ho | ho
      · exact pw_tin eX4_numbersBehind_1 (by rw [ho]; decide) (by rw [ho]; decide) (by rw [ho]; rfl) (by decide) pd
      · exact pw_tin eX4_numbersBehind_1 (by rw [ho]; decide) (by rw [ho]; decide) (by rw [ho]; rfl) (by decide) pd
      · exact pw_tin eX4_numbersBehind_1 (by rw [ho]; decide) (by rw [ho]; decide) (by rw [ho]; rfl) (by decide) pd
      · exact pw_tin eX4_numbersBehind_1 (by rw [ho]; decide) (by rw [ho]; decide) (by rw [ho]; rfl) (by decide) pd
      · exact pw_tin eX4_numbersBehind_1 (by rw [ho]; decide) (by rw [ho]; decide) (by rw [ho]; rfl) (by decide) pd
      · exact pw_tin eX4_numbersBehind_1 (by rw [ho]; decide) (by rw [ho]; decide) (by rw [ho]; rfl) (by decide) pd
      · exact pw_tin eX4_numbersBehind_1 (by rw [ho]; decide) (by rw [ho]; decide) (by rw [ho]; rfl) (by decide) pd
      · exact pw_tin eX4_numbersBehind_1 (by rw [ho]; decide) (by rw [ho]; decide) (by rw [ho]; rfl) (by decide) pd
      · exact pw_tin eX4_numbersBehind_1 (by rw [ho]; decide) (by rw [ho]; decide) (by rw [ho]; rfl) (by decide) pd
      · exact pw_tin eX4_numbersBehind_1 (by rw [ho]; decide) (by rw [ho]; decide) (by rw [ho]; rfl) (by decide) pd
      · exact pw_tin eX4_numbersBehind_1 (by rw [ho]; decide) (by rw [ho]; decide) (by rw [ho]; rfl) (by decide) pd
      · exact pw_tin eX4_numbersBehind_1 (by rw [ho]; decide) (by rw [ho]; decide) (by rw [ho]; rfl) (by decide) pd
      · exact pw_tin eX4_numbersBehind_1 (by rw [ho]; decide) (by rw [ho]; decide) (by rw [ho]; rfl) (by decide) pd
      · exact pw_tin eX4_numbersBehind_1 (by rw [ho]; decide) (by rw [ho]; decide) (by rw [ho]; rfl) (by decide) pd
      · exact pw_tin eX4_numbersBehind_1 (by rw [ho]; decide) (by rw [ho]; decide) (by rw [ho]; rfl) (by decide) pd
      · exact pw_tin eX4_numbersBehind_1 (by rw [ho]; decide) (by rw [ho]; decide) (by rw [ho]; rfl) (by decide) pd
      · exact pw_tin eX4_numbersBehind_1 (by rw [ho]; decide) (by rw [ho]; decide) (by rw [ho]; rfl) (by decide) pd
  refine pw_iconst eX4_numbersBehind_118 ki_0 ?_
  exact pw_iret' eX4_numbersBehind_119 h

def f_X4_isFigureHere (σ : HS) : Option (Int32 × HS) :=
  (f_X4_byteHere σ).bind fun q1 =>
  if q1.1 < 48 then
    some (0, q1.2)
  else
    (f_X4_byteHere q1.2).bind fun q2 =>
    if (57 : Int32) < q2.1 then
      some (0, q2.2)
    else
      some (1, q2.2)
set_option maxRecDepth 20000 in
theorem s_X4_isFigureHere {d : Nat} {σ : HS} {p : Int32 × HS} (h : f_X4_isFigureHere σ = some p) : hs_Spec (d + 2) yX4_isFigureHere cX4_isFigureHere 1 (some .boolean) [.ref 62] σ (some (.int p.1), p.2) := by
  refine hs_spec' (by decide +kernel) rfl (Nat.le_of_ble_eq_true rfl) ?_
  show PW RX4 cX4_isFigureHere 1 (hs_zM (d + 2) (some .boolean) (some (.int p.1), p.2)) 0 [some (.ref 62)] [] σ
  rw [f_X4_isFigureHere] at h
  refine pw_aload_n eX4_isFigureHere_0 rfl ?_
  obtain ⟨q1, g, h⟩ := hs_bind h
  refine pw_mV0i eX4_isFigureHere_1 mv_X4_59 ob_62 (s_X4_byteHere g) (Nat.le_of_ble_eq_true rfl) ?_
  refine pw_bipush eX4_isFigureHere_4 kb_48 ?_
  refine pw_icmp_lt (tgt := 22) eX4_isFigureHere_6 (by decide) (fun c => ?_) (fun c => ?_)
  · have h := hs_it c h
    refine pw_iconst eX4_isFigureHere_22 ki_0 ?_
    exact pw_zret' eX4_isFigureHere_23 narrow_b0 h
  · have h := hs_ie c h
    refine pw_aload_n eX4_isFigureHere_9 rfl ?_
    obtain ⟨q2, g, h⟩ := hs_bind h
    refine pw_mV0i eX4_isFigureHere_10 mv_X4_59 ob_62 (s_X4_byteHere g) (Nat.le_of_ble_eq_true rfl) ?_
    refine pw_bipush eX4_isFigureHere_13 kb_57 ?_
    refine pw_icmp_gt (tgt := 22) eX4_isFigureHere_15 (by decide) (fun c => ?_) (fun c => ?_)
    · have h := hs_it c h
      refine pw_iconst eX4_isFigureHere_22 ki_0 ?_
      exact pw_zret' eX4_isFigureHere_23 narrow_b0 h
    · have h := hs_ie c h
      refine pw_iconst eX4_isFigureHere_18 ki_1 ?_
      refine pw_goto (pc' := 23) eX4_isFigureHere_19 (by decide) ?_
      exact pw_zret' eX4_isFigureHere_23 narrow_b1 h

def f_X4_scanNumber_72 (σ : HS) : Option (Int32 × HS) :=
  (f_X4_isFigureHere σ).bind fun q5 =>
  if q5.1 = 0 then
    some (1, q5.2)
  else
    some (0, q5.2)
set_option maxRecDepth 20000 in
theorem w_X4_scanNumber_72 {d : Nat} {p : Int32 × HS} : ∀ (σ : HS), f_X4_scanNumber_72 σ = some p → PW RX4 cX4_scanNumber 2 (hs_zM (d + 3) (some .boolean) (some (.int p.1), p.2)) 72 [some (.ref 62), none] [] σ := by
  intro σ h
  rw [f_X4_scanNumber_72] at h
  refine pw_aload_n eX4_scanNumber_72 rfl ?_
  obtain ⟨q5, g, h⟩ := hs_bind h
  refine pw_mV0i eX4_scanNumber_73 mv_X4_70 ob_62 (s_X4_isFigureHere g) (Nat.le_of_ble_eq_true rfl) ?_
  refine pw_if_ne (tgt := 83) eX4_scanNumber_76 (by decide) (fun c => ?_) (fun c => ?_)
  · have h := hs_ie c h
    refine pw_iconst eX4_scanNumber_83 ki_0 ?_
    exact pw_zret' eX4_scanNumber_84 narrow_b0 h
  · have h := hs_it c h
    refine pw_iconst eX4_scanNumber_79 ki_1 ?_
    refine pw_goto (pc' := 84) eX4_scanNumber_80 (by decide) ?_
    exact pw_zret' eX4_scanNumber_84 narrow_b1 h
def f_X4_scanNumber (x1 : Int32) (σ : HS) : Option (Int32 × HS) :=
  (f_X4_isFigureHere σ).bind fun q1 =>
  if q1.1 = 0 then
    some (0, q1.2)
  else
    (f_X4_byteHere q1.2).bind fun q2 =>
    (stI q2.2 65 160 x1 (q2.1 - 48)).bind fun σ3 =>
    (f_X4_isFigureHere (sI σ3 62 5 ((σ3.1 62 5) + 1))).bind fun q4 =>
    if q4.1 = 0 then
      f_X4_scanNumber_72 q4.2
    else
      (ldI (q4.2.1 65) 160 x1).bind fun v6 =>
      (f_X4_byteHere q4.2).bind fun q7 =>
      (stI q7.2 65 160 x1 (((v6 * 10) + q7.1) - 48)).bind fun σ8 =>
      f_X4_scanNumber_72 (sI σ8 62 5 ((σ8.1 62 5) + 1))
set_option maxRecDepth 20000 in
theorem s_X4_scanNumber {d : Nat} {x1 : Int32} {σ : HS} {p : Int32 × HS} (h : f_X4_scanNumber x1 σ = some p) : hs_Spec (d + 3) yX4_scanNumber cX4_scanNumber 2 (some .boolean) [.ref 62, .int x1] σ (some (.int p.1), p.2) := by
  refine hs_spec' (by decide +kernel) rfl (Nat.le_of_ble_eq_true rfl) ?_
  show PW RX4 cX4_scanNumber 2 (hs_zM (d + 3) (some .boolean) (some (.int p.1), p.2)) 0 [some (.ref 62), some (.int x1)] [] σ
  rw [f_X4_scanNumber] at h
  refine pw_aload_n eX4_scanNumber_0 rfl ?_
  obtain ⟨q1, g, h⟩ := hs_bind h
  refine pw_mV0i eX4_scanNumber_1 mv_X4_70 ob_62 (s_X4_isFigureHere g) (Nat.le_of_ble_eq_true rfl) ?_
  refine pw_if_ne (tgt := 9) eX4_scanNumber_4 (by decide) (fun c => ?_) (fun c => ?_)
  · have h := hs_ie c h
    refine pw_aload_n eX4_scanNumber_9 rfl ?_
    refine pw_getR (r := 65) eX4_scanNumber_10 fl_X4_18 ob_62 rfl ?_
    refine pw_iload_n eX4_scanNumber_13 rfl ?_
    refine pw_aload_n eX4_scanNumber_14 rfl ?_
    obtain ⟨q2, g, h⟩ := hs_bind h
    refine pw_mV0i eX4_scanNumber_15 mv_X4_59 ob_62 (s_X4_byteHere g) (Nat.le_of_ble_eq_true rfl) ?_
    refine pw_bipush eX4_scanNumber_18 kb_48 ?_
    refine pw_isub eX4_scanNumber_20 ?_
    obtain ⟨σ3, g, h⟩ := hs_bind h
    refine pw_iast' eX4_scanNumber_21 ai_65 g ?_
    refine pw_aload_n eX4_scanNumber_22 rfl ?_
    refine pw_dup eX4_scanNumber_23 rfl ?_
    refine pw_getI eX4_scanNumber_24 fl_X4_28 ob_62 rfl ?_
    refine pw_iconst eX4_scanNumber_27 ki_1 ?_
    refine pw_iadd eX4_scanNumber_28 ?_
    refine pw_putI eX4_scanNumber_29 fw_X4_28 ob_62 rfl ?_
    refine pw_aload_n eX4_scanNumber_32 rfl ?_
    obtain ⟨q4, g, h⟩ := hs_bind h
    refine pw_mV0i eX4_scanNumber_33 mv_X4_70 ob_62 (s_X4_isFigureHere g) (Nat.le_of_ble_eq_true rfl) ?_
    refine pw_if_eq (tgt := 72) eX4_scanNumber_36 (by decide) (fun c => ?_) (fun c => ?_)
    · have h := hs_it c h
      exact pw_le (w_X4_scanNumber_72 q4.2 h) ⟨rfl, trivial⟩
    · have h := hs_ie c h
      refine pw_aload_n eX4_scanNumber_39 rfl ?_
      refine pw_getR (r := 65) eX4_scanNumber_40 fl_X4_18 ob_62 rfl ?_
      refine pw_iload_n eX4_scanNumber_43 rfl ?_
      refine pw_aload_n eX4_scanNumber_44 rfl ?_
      refine pw_getR (r := 65) eX4_scanNumber_45 fl_X4_18 ob_62 rfl ?_
      refine pw_iload_n eX4_scanNumber_48 rfl ?_
      obtain ⟨v6, g, h⟩ := hs_bind h
      refine pw_iald' eX4_scanNumber_49 ai_65 g ?_
      refine pw_bipush eX4_scanNumber_50 kb_10 ?_
      refine pw_imul eX4_scanNumber_52 ?_
      refine pw_aload_n eX4_scanNumber_53 rfl ?_
      obtain ⟨q7, g, h⟩ := hs_bind h
      refine pw_mV0i eX4_scanNumber_54 mv_X4_59 ob_62 (s_X4_byteHere g) (Nat.le_of_ble_eq_true rfl) ?_
      refine pw_iadd eX4_scanNumber_57 ?_
      refine pw_bipush eX4_scanNumber_58 kb_48 ?_
      refine pw_isub eX4_scanNumber_60 ?_
      obtain ⟨σ8, g, h⟩ := hs_bind h
      refine pw_iast' eX4_scanNumber_61 ai_65 g ?_
      refine pw_aload_n eX4_scanNumber_62 rfl ?_
      refine pw_dup eX4_scanNumber_63 rfl ?_
      refine pw_getI eX4_scanNumber_64 fl_X4_28 ob_62 rfl ?_
      refine pw_iconst eX4_scanNumber_67 ki_1 ?_
      refine pw_iadd eX4_scanNumber_68 ?_
      refine pw_putI eX4_scanNumber_69 fw_X4_28 ob_62 rfl ?_
      exact pw_le (w_X4_scanNumber_72 (sI σ8 62 5 ((σ8.1 62 5) + 1)) h) ⟨rfl, trivial⟩
  · have h := hs_it c h
    refine pw_iconst eX4_scanNumber_7 ki_0 ?_
    exact pw_zret' eX4_scanNumber_8 narrow_b0 h

def f_X4_scanOrder_39 : Nat → Int32 → Int32 → HS → Option (Int32 × HS)
  | 0, _, _, _ => none
  | n + 1, x1, x2, σ =>
    if x1 ≤ x2 then
      (f_X4_skipBlanks σ).bind fun σ5 =>
      (f_X4_byteHere σ5).bind fun q6 =>
      if q6.1 = 59 then
        some (1, (sI q6.2 62 5 ((q6.2.1 62 5) + 1)))
      else
        some (0, q6.2)
    else
      (f_X4_skipBlanks σ).bind fun σ7 =>
      (f_X4_scanNumber (((σ7.1 62 4) * 4) + x2) σ7).bind fun q8 =>
      if q8.1 = 0 then
        some (0, q8.2)
      else
        f_X4_scanOrder_39 n x1 (x2 + 1) q8.2
set_option maxRecDepth 20000 in
theorem w_X4_scanOrder_39 {d : Nat} {p : Int32 × HS} : ∀ (n : Nat) (x1 : Int32) (x2 : Int32) (σ : HS), f_X4_scanOrder_39 n x1 x2 σ = some p → PW RX4 cX4_scanOrder 3 (hs_zM (d + 4) (some .boolean) (some (.int p.1), p.2)) 39 [some (.ref 62), some (.int x1), some (.int x2)] [] σ := by
  intro n
  induction n with
  | zero =>
    intro x1 x2 σ h
    rw [f_X4_scanOrder_39] at h
    cases h
  | succ n ih =>
    intro x1 x2 σ h
    rw [f_X4_scanOrder_39] at h
    refine pw_iload_n eX4_scanOrder_39 rfl ?_
    refine pw_iload_n eX4_scanOrder_40 rfl ?_
    refine pw_icmp_ge (tgt := 71) eX4_scanOrder_41 (by decide) (fun c => ?_) (fun c => ?_)
    · have h := hs_it c h
      refine pw_aload_n eX4_scanOrder_71 rfl ?_
      obtain ⟨σ5, g, h⟩ := hs_bind h
      refine pw_mV0v eX4_scanOrder_72 mv_X4_31 ob_62 (s_X4_skipBlanks g) (Nat.le_of_ble_eq_true rfl) ?_
      refine pw_aload_n eX4_scanOrder_75 rfl ?_
      obtain ⟨q6, g, h⟩ := hs_bind h
      refine pw_mV0i eX4_scanOrder_76 mv_X4_59 ob_62 (s_X4_byteHere g) (Nat.le_of_ble_eq_true rfl) ?_
      refine pw_bipush eX4_scanOrder_79 kb_59 ?_
      refine pw_icmp_eq (tgt := 86) eX4_scanOrder_81 (by decide) (fun c => ?_) (fun c => ?_)
      · have h := hs_it c h
        refine pw_aload_n eX4_scanOrder_86 rfl ?_
        refine pw_dup eX4_scanOrder_87 rfl ?_
        refine pw_getI eX4_scanOrder_88 fl_X4_28 ob_62 rfl ?_
        refine pw_iconst eX4_scanOrder_91 ki_1 ?_
        refine pw_iadd eX4_scanOrder_92 ?_
        refine pw_putI eX4_scanOrder_93 fw_X4_28 ob_62 rfl ?_
        refine pw_iconst eX4_scanOrder_96 ki_1 ?_
        exact pw_zret' eX4_scanOrder_97 narrow_b1 h
      · have h := hs_ie c h
        refine pw_iconst eX4_scanOrder_84 ki_0 ?_
        exact pw_zret' eX4_scanOrder_85 narrow_b0 h
    · have h := hs_ie c h
      refine pw_aload_n eX4_scanOrder_44 rfl ?_
      obtain ⟨σ7, g, h⟩ := hs_bind h
      refine pw_mV0v eX4_scanOrder_45 mv_X4_31 ob_62 (s_X4_skipBlanks g) (Nat.le_of_ble_eq_true rfl) ?_
      refine pw_aload_n eX4_scanOrder_48 rfl ?_
      refine pw_aload_n eX4_scanOrder_49 rfl ?_
      refine pw_getI eX4_scanOrder_50 fl_X4_25 ob_62 rfl ?_
      refine pw_iconst eX4_scanOrder_53 ki_4 ?_
      refine pw_imul eX4_scanOrder_54 ?_
      refine pw_iload_n eX4_scanOrder_55 rfl ?_
      refine pw_iadd eX4_scanOrder_56 ?_
      obtain ⟨q8, g, h⟩ := hs_bind h
      refine pw_mV1i eX4_scanOrder_57 mv_X4_66 ob_62 (s_X4_scanNumber g) (Nat.le_of_ble_eq_true rfl) ?_
      refine pw_if_ne (tgt := 65) eX4_scanOrder_60 (by decide) (fun c => ?_) (fun c => ?_)
      · have h := hs_ie c h
        refine pw_iinc eX4_scanOrder_65 (by decide) rfl ki_1 rfl rfl ?_
        refine pw_goto (pc' := 39) eX4_scanOrder_68 (by decide) ?_
        exact ih x1 (x2 + 1) q8.2 h
      · have h := hs_it c h
        refine pw_iconst eX4_scanOrder_63 ki_0 ?_
        exact pw_zret' eX4_scanOrder_64 narrow_b0 h
def f_X4_scanOrder (σ : HS) : Option (Int32 × HS) :=
  (f_X4_byteHere σ).bind fun q1 =>
  (f_X4_numbersBehind q1.1 q1.2).bind fun q2 =>
  if q2.1 = 0 then
    some (0, q2.2)
  else
    (f_X4_byteHere q2.2).bind fun q3 =>
    (stI q3.2 64 40 (q2.2.1 62 4) q3.1).bind fun σ4 =>
    f_X4_scanOrder_39 FU q2.1 0 (sI σ4 62 5 ((σ4.1 62 5) + 1))
set_option maxRecDepth 20000 in
theorem s_X4_scanOrder {d : Nat} {σ : HS} {p : Int32 × HS} (h : f_X4_scanOrder σ = some p) : hs_Spec (d + 4) yX4_scanOrder cX4_scanOrder 3 (some .boolean) [.ref 62] σ (some (.int p.1), p.2) := by
  refine hs_spec' (by decide +kernel) rfl (Nat.le_of_ble_eq_true rfl) ?_
  show PW RX4 cX4_scanOrder 3 (hs_zM (d + 4) (some .boolean) (some (.int p.1), p.2)) 0 [some (.ref 62), none, none] [] σ
  rw [f_X4_scanOrder] at h
  refine pw_aload_n eX4_scanOrder_0 rfl ?_
  obtain ⟨q1, g, h⟩ := hs_bind h
  refine pw_mV0i eX4_scanOrder_1 mv_X4_59 ob_62 (s_X4_byteHere g) (Nat.le_of_ble_eq_true rfl) ?_
  obtain ⟨q2, g, h⟩ := hs_bind h
  refine pw_mS1i eX4_scanOrder_4 ms_X4_63 (s_X4_numbersBehind g) (Nat.le_of_ble_eq_true rfl) ?_
  refine pw_istore_n eX4_scanOrder_7 rfl (by decide) rfl rfl ?_
  refine pw_iload_n eX4_scanOrder_8 rfl ?_
  refine pw_if_ne (tgt := 14) eX4_scanOrder_9 (by decide) (fun c => ?_) (fun c => ?_)
  · have h := hs_ie c h
    refine pw_aload_n eX4_scanOrder_14 rfl ?_
    refine pw_getR (r := 64) eX4_scanOrder_15 fl_X4_15 ob_62 rfl ?_
    refine pw_aload_n eX4_scanOrder_18 rfl ?_
    refine pw_getI eX4_scanOrder_19 fl_X4_25 ob_62 rfl ?_
    refine pw_aload_n eX4_scanOrder_22 rfl ?_
    obtain ⟨q3, g, h⟩ := hs_bind h
    refine pw_mV0i eX4_scanOrder_23 mv_X4_59 ob_62 (s_X4_byteHere g) (Nat.le_of_ble_eq_true rfl) ?_
    obtain ⟨σ4, g, h⟩ := hs_bind h
    refine pw_iast' eX4_scanOrder_26 ai_64 g ?_
    refine pw_aload_n eX4_scanOrder_27 rfl ?_
    refine pw_dup eX4_scanOrder_28 rfl ?_
    refine pw_getI eX4_scanOrder_29 fl_X4_28 ob_62 rfl ?_
    refine pw_iconst eX4_scanOrder_32 ki_1 ?_
    refine pw_iadd eX4_scanOrder_33 ?_
    refine pw_putI eX4_scanOrder_34 fw_X4_28 ob_62 rfl ?_
    refine pw_iconst eX4_scanOrder_37 ki_0 ?_
    refine pw_istore_n eX4_scanOrder_38 rfl (by decide) rfl rfl ?_
    exact w_X4_scanOrder_39 FU q2.1 0 (sI σ4 62 5 ((σ4.1 62 5) + 1)) h
  · have h := hs_it c h
    refine pw_iconst eX4_scanOrder_12 ki_0 ?_
    exact pw_zret' eX4_scanOrder_13 narrow_b0 h

def f_X4_scan_79 (σ : HS) : Option (Int32 × HS) :=
  if (σ.1 62 3) ≤ (σ.1 62 5) then
    some ((-1), σ)
  else
    some ((σ.1 62 5), σ)
set_option maxRecDepth 20000 in
theorem w_X4_scan_79 {d : Nat} {p : Int32 × HS} : ∀ (σ : HS), f_X4_scan_79 σ = some p → PW RX4 cX4_scan 1 (hs_zM (d + 5) (some .int) (some (.int p.1), p.2)) 79 [some (.ref 62)] [] σ := by
  intro σ h
  rw [f_X4_scan_79] at h
  refine pw_aload_n eX4_scan_79 rfl ?_
  refine pw_getI eX4_scan_80 fl_X4_28 ob_62 rfl ?_
  refine pw_aload_n eX4_scan_83 rfl ?_
  refine pw_getI eX4_scan_84 fl_X4_21 ob_62 rfl ?_
  refine pw_icmp_ge (tgt := 97) eX4_scan_87 (by decide) (fun c => ?_) (fun c => ?_)
  · have h := hs_it c h
    refine pw_iconst eX4_scan_97 ki_m1 ?_
    exact pw_iret' eX4_scan_98 h
  · have h := hs_ie c h
    refine pw_aload_n eX4_scan_90 rfl ?_
    refine pw_getI eX4_scan_91 fl_X4_28 ob_62 rfl ?_
    refine pw_goto (pc' := 98) eX4_scan_94 (by decide) ?_
    exact pw_iret' eX4_scan_98 h
def f_X4_scan_30 : Nat → HS → Option (Int32 × HS)
  | 0, _ => none
  | n + 1, σ =>
    if (σ.1 62 3) ≤ (σ.1 62 5) then
      f_X4_scan_79 σ
    else
      if (40 : Int32) ≤ (σ.1 62 4) then
        f_X4_scan_79 σ
      else
        (f_X4_scanOrder σ).bind fun q2 =>
        if q2.1 = 0 then
          some ((q2.2.1 62 5), q2.2)
        else
          (f_X4_skipBlanks (sI q2.2 62 4 ((q2.2.1 62 4) + 1))).bind fun σ3 =>
          f_X4_scan_30 n σ3
set_option maxRecDepth 20000 in
theorem w_X4_scan_30 {d : Nat} {p : Int32 × HS} : ∀ (n : Nat) (σ : HS), f_X4_scan_30 n σ = some p → PW RX4 cX4_scan 1 (hs_zM (d + 5) (some .int) (some (.int p.1), p.2)) 30 [some (.ref 62)] [] σ := by
  intro n
  induction n with
  | zero =>
    intro σ h
    rw [f_X4_scan_30] at h
    cases h
  | succ n ih =>
    intro σ h
    rw [f_X4_scan_30] at h
    refine pw_aload_n eX4_scan_30 rfl ?_
    refine pw_getI eX4_scan_31 fl_X4_28 ob_62 rfl ?_
    refine pw_aload_n eX4_scan_34 rfl ?_
    refine pw_getI eX4_scan_35 fl_X4_21 ob_62 rfl ?_
    refine pw_icmp_ge (tgt := 79) eX4_scan_38 (by decide) (fun c => ?_) (fun c => ?_)
    · have h := hs_it c h
      exact w_X4_scan_79 σ h
    · have h := hs_ie c h
      refine pw_aload_n eX4_scan_41 rfl ?_
      refine pw_getI eX4_scan_42 fl_X4_25 ob_62 rfl ?_
      refine pw_bipush eX4_scan_45 kb_40 ?_
      refine pw_icmp_ge (tgt := 79) eX4_scan_47 (by decide) (fun c => ?_) (fun c => ?_)
      · have h := hs_it c h
        exact w_X4_scan_79 σ h
      · have h := hs_ie c h
        refine pw_aload_n eX4_scan_50 rfl ?_
        obtain ⟨q2, g, h⟩ := hs_bind h
        refine pw_mV0i eX4_scan_51 mv_X4_34 ob_62 (s_X4_scanOrder g) (Nat.le_of_ble_eq_true rfl) ?_
        refine pw_if_ne (tgt := 62) eX4_scan_54 (by decide) (fun c => ?_) (fun c => ?_)
        · have h := hs_ie c h
          refine pw_aload_n eX4_scan_62 rfl ?_
          refine pw_dup eX4_scan_63 rfl ?_
          refine pw_getI eX4_scan_64 fl_X4_25 ob_62 rfl ?_
          refine pw_iconst eX4_scan_67 ki_1 ?_
          refine pw_iadd eX4_scan_68 ?_
          refine pw_putI eX4_scan_69 fw_X4_25 ob_62 rfl ?_
          refine pw_aload_n eX4_scan_72 rfl ?_
          obtain ⟨σ3, g, h⟩ := hs_bind h
          refine pw_mV0v eX4_scan_73 mv_X4_31 ob_62 (s_X4_skipBlanks g) (Nat.le_of_ble_eq_true rfl) ?_
          refine pw_goto (pc' := 30) eX4_scan_76 (by decide) ?_
          exact ih σ3 h
        · have h := hs_it c h
          refine pw_aload_n eX4_scan_57 rfl ?_
          refine pw_getI eX4_scan_58 fl_X4_28 ob_62 rfl ?_
          exact pw_iret' eX4_scan_61 h
def f_X4_scan (σ : HS) : Option (Int32 × HS) :=
  (f_X4_skipBlanks (sI (sI σ 62 4 0) 62 5 0)).bind fun σ1 =>
  if (σ1.1 62 5) < (σ1.1 62 3) then
    f_X4_scan_30 FU σ1
  else
    some ((σ1.1 62 5), σ1)
set_option maxRecDepth 20000 in
theorem s_X4_scan {d : Nat} {σ : HS} {p : Int32 × HS} (h : f_X4_scan σ = some p) : hs_Spec (d + 5) yX4_scan cX4_scan 1 (some .int) [.ref 62] σ (some (.int p.1), p.2) := by
  refine hs_spec' (by decide +kernel) rfl (Nat.le_of_ble_eq_true rfl) ?_
  show PW RX4 cX4_scan 1 (hs_zM (d + 5) (some .int) (some (.int p.1), p.2)) 0 [some (.ref 62)] [] σ
  rw [f_X4_scan] at h
  refine pw_aload_n eX4_scan_0 rfl ?_
  refine pw_iconst eX4_scan_1 ki_0 ?_
  refine pw_putI eX4_scan_2 fw_X4_25 ob_62 rfl ?_
  refine pw_aload_n eX4_scan_5 rfl ?_
  refine pw_iconst eX4_scan_6 ki_0 ?_
  refine pw_putI eX4_scan_7 fw_X4_28 ob_62 rfl ?_
  refine pw_aload_n eX4_scan_10 rfl ?_
  obtain ⟨σ1, g, h⟩ := hs_bind h
  refine pw_mV0v eX4_scan_11 mv_X4_31 ob_62 (s_X4_skipBlanks g) (Nat.le_of_ble_eq_true rfl) ?_
  refine pw_aload_n eX4_scan_14 rfl ?_
  refine pw_getI eX4_scan_15 fl_X4_28 ob_62 rfl ?_
  refine pw_aload_n eX4_scan_18 rfl ?_
  refine pw_getI eX4_scan_19 fl_X4_21 ob_62 rfl ?_
  refine pw_icmp_lt (tgt := 30) eX4_scan_22 (by decide) (fun c => ?_) (fun c => ?_)
  · have h := hs_it c h
    exact w_X4_scan_30 FU σ1 h
  · have h := hs_ie c h
    refine pw_aload_n eX4_scan_25 rfl ?_
    refine pw_getI eX4_scan_26 fl_X4_28 ob_62 rfl ?_
    exact pw_iret' eX4_scan_29 h

def f_X4_perform (s2 : Nat) (x1 : Int32) (σ : HS) : Option (Int32 × HS) :=
  (ldI (σ.1 64) 40 x1).bind fun v1 =>
  if v1 = 97 then
    (ldI (σ.1 65) 160 (x1 * 4)).bind fun v2 =>
    (ldI (σ.1 65) 160 ((x1 * 4) + 1)).bind fun v3 =>
    (f_X6_changeNeed s2 v2 v3 2 σ).bind fun q4 =>
    some (q4.1, q4.2)
  else if v1 = 105 then
    (ldI (σ.1 65) 160 (x1 * 4)).bind fun v5 =>
    (f_X6_addInstruction s2 v5 σ).bind fun q6 =>
    some (q6.1, q6.2)
  else if v1 = 107 then
    (ldI (σ.1 65) 160 (x1 * 4)).bind fun v7 =>
    (ldI (σ.1 65) 160 ((x1 * 4) + 1)).bind fun v8 =>
    (ldI (σ.1 65) 160 ((x1 * 4) + 2)).bind fun v9 =>
    (ldI (σ.1 65) 160 ((x1 * 4) + 3)).bind fun v10 =>
    (f_X6_addKind s2 v7 v8 v9 v10 σ).bind fun q11 =>
    some (q11.1, q11.2)
  else if v1 = 110 then
    (ldI (σ.1 65) 160 (x1 * 4)).bind fun v12 =>
    (ldI (σ.1 65) 160 ((x1 * 4) + 1)).bind fun v13 =>
    (f_X6_changeNeed s2 v12 v13 1 σ).bind fun q14 =>
    some (q14.1, q14.2)
  else if v1 = 114 then
    (ldI (σ.1 65) 160 (x1 * 4)).bind fun v15 =>
    (f_X6_change s2 1 v15 σ).bind fun q16 =>
    some (q16.1, q16.2)
  else if v1 = 119 then
    (ldI (σ.1 65) 160 (x1 * 4)).bind fun v17 =>
    (f_X6_change s2 0 v17 σ).bind fun q18 =>
    some (q18.1, q18.2)
  else 
    (ldI (σ.1 65) 160 (x1 * 4)).bind fun v19 =>
  (f_X6_removeInstruction s2 v19 σ).bind fun q20 =>
  some (q20.1, q20.2)
set_option maxRecDepth 20000 in
theorem s_X4_perform {d : Nat} {s2 : Nat} (hs2 : hs_IsS s2) {x1 : Int32} {σ : HS} {p : Int32 × HS} (h : f_X4_perform s2 x1 σ = some p) : hs_Spec (d + 5) yX4_perform cX4_perform 4 (some .int) [.ref 62, .int x1, .ref s2] σ (some (.int p.1), p.2) := by
  refine hs_spec' (by decide +kernel) rfl (Nat.le_of_ble_eq_true rfl) ?_
  show PW RX4 cX4_perform 4 (hs_zM (d + 5) (some .int) (some (.int p.1), p.2)) 0 [some (.ref 62), some (.int x1), some (.ref s2), none] [] σ
  rw [f_X4_perform] at h
  refine pw_iload_n eX4_perform_0 rfl ?_
  refine pw_iconst eX4_perform_1 ki_4 ?_
  refine pw_imul eX4_perform_2 ?_
  refine pw_istore_n eX4_perform_3 rfl (by decide) rfl rfl ?_
  refine pw_aload_n eX4_perform_4 rfl ?_
  refine pw_getR (r := 64) eX4_perform_5 fl_X4_15 ob_62 rfl ?_
  refine pw_iload_n eX4_perform_8 rfl ?_
  obtain ⟨v1, g, h⟩ := hs_bind h
  refine pw_iald' eX4_perform_9 ai_64 g ?_
  by_cases c0 : v1 = 97
  · have h := hs_it c0 h
    refine pw_look (pc' := 134) (off := 124) eX4_perform_10 (by decide) (by rw [c0]; decide) (by decide) ?_
    refine pw_aload_n eX4_perform_134 rfl ?_
    refine pw_aload_n eX4_perform_135 rfl ?_
    refine pw_getR (r := 65) eX4_perform_136 fl_X4_18 ob_62 rfl ?_
    refine pw_iload_n eX4_perform_139 rfl ?_
    obtain ⟨v2, g, h⟩ := hs_bind h
    refine pw_iald' eX4_perform_140 ai_65 g ?_
    refine pw_aload_n eX4_perform_141 rfl ?_
    refine pw_getR (r := 65) eX4_perform_142 fl_X4_18 ob_62 rfl ?_
    refine pw_iload_n eX4_perform_145 rfl ?_
    refine pw_iconst eX4_perform_146 ki_1 ?_
    refine pw_iadd eX4_perform_147 ?_
    obtain ⟨v3, g, h⟩ := hs_bind h
    refine pw_iald' eX4_perform_148 ai_65 g ?_
    refine pw_iconst eX4_perform_149 ki_2 ?_
    obtain ⟨q4, g, h⟩ := hs_bind h
    refine pw_mV3i eX4_perform_150 mv_X4_48 hs2.1 (s_X6_changeNeed hs2 g) (Nat.le_of_ble_eq_true rfl) ?_
    exact pw_iret' eX4_perform_153 h
  have h := hs_ie c0 h
  by_cases c1 : v1 = 105
  · have h := hs_it c1 h
    refine pw_look (pc' := 103) (off := 93) eX4_perform_10 (by decide) (by rw [c1]; decide) (by decide) ?_
    refine pw_aload_n eX4_perform_103 rfl ?_
    refine pw_aload_n eX4_perform_104 rfl ?_
    refine pw_getR (r := 65) eX4_perform_105 fl_X4_18 ob_62 rfl ?_
    refine pw_iload_n eX4_perform_108 rfl ?_
    obtain ⟨v5, g, h⟩ := hs_bind h
    refine pw_iald' eX4_perform_109 ai_65 g ?_
    obtain ⟨q6, g, h⟩ := hs_bind h
    refine pw_mV1i eX4_perform_110 mv_X4_44 hs2.1 (s_X6_addInstruction hs2 g) (Nat.le_of_ble_eq_true rfl) ?_
    exact pw_iret' eX4_perform_113 h
  have h := hs_ie c1 h
  by_cases c2 : v1 = 107
  · have h := hs_it c2 h
    refine pw_look (pc' := 68) (off := 58) eX4_perform_10 (by decide) (by rw [c2]; decide) (by decide) ?_
    refine pw_aload_n eX4_perform_68 rfl ?_
    refine pw_aload_n eX4_perform_69 rfl ?_
    refine pw_getR (r := 65) eX4_perform_70 fl_X4_18 ob_62 rfl ?_
    refine pw_iload_n eX4_perform_73 rfl ?_
    obtain ⟨v7, g, h⟩ := hs_bind h
    refine pw_iald' eX4_perform_74 ai_65 g ?_
    refine pw_aload_n eX4_perform_75 rfl ?_
    refine pw_getR (r := 65) eX4_perform_76 fl_X4_18 ob_62 rfl ?_
    refine pw_iload_n eX4_perform_79 rfl ?_
    refine pw_iconst eX4_perform_80 ki_1 ?_
    refine pw_iadd eX4_perform_81 ?_
    obtain ⟨v8, g, h⟩ := hs_bind h
    refine pw_iald' eX4_perform_82 ai_65 g ?_
    refine pw_aload_n eX4_perform_83 rfl ?_
    refine pw_getR (r := 65) eX4_perform_84 fl_X4_18 ob_62 rfl ?_
    refine pw_iload_n eX4_perform_87 rfl ?_
    refine pw_iconst eX4_perform_88 ki_2 ?_
    refine pw_iadd eX4_perform_89 ?_
    obtain ⟨v9, g, h⟩ := hs_bind h
    refine pw_iald' eX4_perform_90 ai_65 g ?_
    refine pw_aload_n eX4_perform_91 rfl ?_
    refine pw_getR (r := 65) eX4_perform_92 fl_X4_18 ob_62 rfl ?_
    refine pw_iload_n eX4_perform_95 rfl ?_
    refine pw_iconst eX4_perform_96 ki_3 ?_
    refine pw_iadd eX4_perform_97 ?_
    obtain ⟨v10, g, h⟩ := hs_bind h
    refine pw_iald' eX4_perform_98 ai_65 g ?_
    obtain ⟨q11, g, h⟩ := hs_bind h
    refine pw_mV4i eX4_perform_99 mv_X4_38 hs2.1 (s_X6_addKind hs2 g) (Nat.le_of_ble_eq_true rfl) ?_
    exact pw_iret' eX4_perform_102 h
  have h := hs_ie c2 h
  by_cases c3 : v1 = 110
  · have h := hs_it c3 h
    refine pw_look (pc' := 114) (off := 104) eX4_perform_10 (by decide) (by rw [c3]; decide) (by decide) ?_
    refine pw_aload_n eX4_perform_114 rfl ?_
    refine pw_aload_n eX4_perform_115 rfl ?_
    refine pw_getR (r := 65) eX4_perform_116 fl_X4_18 ob_62 rfl ?_
    refine pw_iload_n eX4_perform_119 rfl ?_
    obtain ⟨v12, g, h⟩ := hs_bind h
    refine pw_iald' eX4_perform_120 ai_65 g ?_
    refine pw_aload_n eX4_perform_121 rfl ?_
    refine pw_getR (r := 65) eX4_perform_122 fl_X4_18 ob_62 rfl ?_
    refine pw_iload_n eX4_perform_125 rfl ?_
    refine pw_iconst eX4_perform_126 ki_1 ?_
    refine pw_iadd eX4_perform_127 ?_
    obtain ⟨v13, g, h⟩ := hs_bind h
    refine pw_iald' eX4_perform_128 ai_65 g ?_
    refine pw_iconst eX4_perform_129 ki_1 ?_
    obtain ⟨q14, g, h⟩ := hs_bind h
    refine pw_mV3i eX4_perform_130 mv_X4_48 hs2.1 (s_X6_changeNeed hs2 g) (Nat.le_of_ble_eq_true rfl) ?_
    exact pw_iret' eX4_perform_133 h
  have h := hs_ie c3 h
  by_cases c4 : v1 = 114
  · have h := hs_it c4 h
    refine pw_look (pc' := 166) (off := 156) eX4_perform_10 (by decide) (by rw [c4]; decide) (by decide) ?_
    refine pw_aload_n eX4_perform_166 rfl ?_
    refine pw_iconst eX4_perform_167 ki_1 ?_
    refine pw_aload_n eX4_perform_168 rfl ?_
    refine pw_getR (r := 65) eX4_perform_169 fl_X4_18 ob_62 rfl ?_
    refine pw_iload_n eX4_perform_172 rfl ?_
    obtain ⟨v15, g, h⟩ := hs_bind h
    refine pw_iald' eX4_perform_173 ai_65 g ?_
    obtain ⟨q16, g, h⟩ := hs_bind h
    refine pw_mV2i eX4_perform_174 mv_X4_52 hs2.1 (s_X6_change hs2 g) (Nat.le_of_ble_eq_true rfl) ?_
    exact pw_iret' eX4_perform_177 h
  have h := hs_ie c4 h
  by_cases c5 : v1 = 119
  · have h := hs_it c5 h
    refine pw_look (pc' := 154) (off := 144) eX4_perform_10 (by decide) (by rw [c5]; decide) (by decide) ?_
    refine pw_aload_n eX4_perform_154 rfl ?_
    refine pw_iconst eX4_perform_155 ki_0 ?_
    refine pw_aload_n eX4_perform_156 rfl ?_
    refine pw_getR (r := 65) eX4_perform_157 fl_X4_18 ob_62 rfl ?_
    refine pw_iload_n eX4_perform_160 rfl ?_
    obtain ⟨v17, g, h⟩ := hs_bind h
    refine pw_iald' eX4_perform_161 ai_65 g ?_
    obtain ⟨q18, g, h⟩ := hs_bind h
    refine pw_mV2i eX4_perform_162 mv_X4_52 hs2.1 (s_X6_change hs2 g) (Nat.le_of_ble_eq_true rfl) ?_
    exact pw_iret' eX4_perform_165 h
  have h := hs_ie c5 h
  have d0 := hs_nl (z := 97) c0 (by decide); have d1 := hs_nl (z := 105) c1 (by decide); have d2 := hs_nl (z := 107) c2 (by decide); have d3 := hs_nl (z := 110) c3 (by decide); have d4 := hs_nl (z := 114) c4 (by decide); have d5 := hs_nl (z := 119) c5 (by decide); skip
  refine pw_look (pc' := 178) (off := 168) eX4_perform_10 (by decide) (by simp [Op.lookupswitch.offset, Ne.symm d0, d0, Ne.symm d1, d1, Ne.symm d2, d2, Ne.symm d3, d3, Ne.symm d4, d4, Ne.symm d5, d5]) (by decide) ?_
  refine pw_aload_n eX4_perform_178 rfl ?_
  refine pw_aload_n eX4_perform_179 rfl ?_
  refine pw_getR (r := 65) eX4_perform_180 fl_X4_18 ob_62 rfl ?_
  refine pw_iload_n eX4_perform_183 rfl ?_
  obtain ⟨v19, g, h⟩ := hs_bind h
  refine pw_iald' eX4_perform_184 ai_65 g ?_
  obtain ⟨q20, g, h⟩ := hs_bind h
  refine pw_mV1i eX4_perform_185 mv_X4_56 hs2.1 (s_X6_removeInstruction hs2 g) (Nat.le_of_ble_eq_true rfl) ?_
  exact pw_iret' eX4_perform_188 h
