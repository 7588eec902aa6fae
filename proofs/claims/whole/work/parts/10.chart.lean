def f_X1_forgetStates_2 : Nat → Int32 → HS → Option (HS)
  | 0, _, _ => none
  | n + 1, x1, σ =>
    if (σ.1 38 3) ≤ x1 then
      some (sI (sI σ 38 3 0) 38 5 0)
    else
      (ldI (σ.1 39) 150 x1).bind fun v1 =>
      (stI σ 41 4096 v1 0).bind fun σ2 =>
      f_X1_forgetStates_2 n (x1 + 1) σ2
set_option maxRecDepth 20000 in
theorem w_X1_forgetStates_2 {d : Nat} {p : HS} : ∀ (n : Nat) (x1 : Int32) (σ : HS), f_X1_forgetStates_2 n x1 σ = some p → PW RX1 cX1_forgetStates 2 (hs_zM (d + 1) none (none, p)) 2 [some (.ref 38), some (.int x1)] [] σ := by
  intro n
  induction n with
  | zero =>
    intro x1 σ h
    rw [f_X1_forgetStates_2] at h
    cases h
  | succ n ih =>
    intro x1 σ h
    rw [f_X1_forgetStates_2] at h
    refine pw_iload_n eX1_forgetStates_2 rfl ?_
    refine pw_aload_n eX1_forgetStates_3 rfl ?_
    refine pw_getI eX1_forgetStates_4 fl_X1_38 ob_38 rfl ?_
    refine pw_icmp_ge (tgt := 28) eX1_forgetStates_7 (by decide) (fun c => ?_) (fun c => ?_)
    · have h := hs_it c h
      refine pw_aload_n eX1_forgetStates_28 rfl ?_
      refine pw_iconst eX1_forgetStates_29 ki_0 ?_
      refine pw_putI eX1_forgetStates_30 fw_X1_38 ob_38 rfl ?_
      refine pw_aload_n eX1_forgetStates_33 rfl ?_
      refine pw_iconst eX1_forgetStates_34 ki_0 ?_
      refine pw_putZ eX1_forgetStates_35 fw_X1_32 ob_38 rfl narrow_b0 rfl ?_
      exact pw_vret' eX1_forgetStates_38 h
    · have h := hs_ie c h
      refine pw_aload_n eX1_forgetStates_10 rfl ?_
      refine pw_getR (r := 41) eX1_forgetStates_11 fl_X1_18 ob_38 rfl ?_
      refine pw_aload_n eX1_forgetStates_14 rfl ?_
      refine pw_getR (r := 39) eX1_forgetStates_15 fl_X1_9 ob_38 rfl ?_
      refine pw_iload_n eX1_forgetStates_18 rfl ?_
      obtain ⟨v1, g, h⟩ := hs_bind h
      refine pw_iald' eX1_forgetStates_19 ai_39 g ?_
      refine pw_iconst eX1_forgetStates_20 ki_0 ?_
      obtain ⟨σ2, g, h⟩ := hs_bind h
      refine pw_iast' eX1_forgetStates_21 ai_41 g ?_
      refine pw_iinc eX1_forgetStates_22 (by decide) rfl ki_1 rfl rfl ?_
      refine pw_goto (pc' := 2) eX1_forgetStates_25 (by decide) ?_
      exact ih (x1 + 1) σ2 h
def f_X1_forgetStates (σ : HS) : Option (HS) :=
  f_X1_forgetStates_2 FU 0 σ
set_option maxRecDepth 20000 in
theorem s_X1_forgetStates {d : Nat} {σ : HS} {p : HS} (h : f_X1_forgetStates σ = some p) : hs_Spec (d + 1) yX1_forgetStates cX1_forgetStates 2 none [.ref 38] σ (none, p) := by
  refine hs_spec' (by decide +kernel) rfl (Nat.le_of_ble_eq_true rfl) ?_
  show PW RX1 cX1_forgetStates 2 (hs_zM (d + 1) none (none, p)) 0 [some (.ref 38), none] [] σ
  rw [f_X1_forgetStates] at h
  refine pw_iconst eX1_forgetStates_0 ki_0 ?_
  refine pw_istore_n eX1_forgetStates_1 rfl (by decide) rfl rfl ?_
  exact w_X1_forgetStates_2 FU 0 σ h

def f_X1_note (x1 : Int32) (σ : HS) : Option (HS) :=
  (ldI (σ.1 41) 4096 x1).bind fun v1 =>
  if v1 = 0 then
    if (σ.1 38 3) < 150 then
      (stI σ 39 150 (σ.1 38 3) x1).bind fun σ2 =>
      (stI (sI σ2 38 3 ((σ2.1 38 3) + 1)) 41 4096 x1 ((sI σ2 38 3 ((σ2.1 38 3) + 1)).1 38 3)).bind fun σ3 =>
      some σ3
    else
      some (sI σ 38 5 1)
  else
    some σ
set_option maxRecDepth 20000 in
theorem s_X1_note {d : Nat} {x1 : Int32} {σ : HS} {p : HS} (h : f_X1_note x1 σ = some p) : hs_Spec (d + 1) yX1_note cX1_note 2 none [.ref 38, .int x1] σ (none, p) := by
  refine hs_spec' (by decide +kernel) rfl (Nat.le_of_ble_eq_true rfl) ?_
  show PW RX1 cX1_note 2 (hs_zM (d + 1) none (none, p)) 0 [some (.ref 38), some (.int x1)] [] σ
  rw [f_X1_note] at h
  refine pw_aload_n eX1_note_0 rfl ?_
  refine pw_getR (r := 41) eX1_note_1 fl_X1_18 ob_38 rfl ?_
  refine pw_iload_n eX1_note_4 rfl ?_
  obtain ⟨v1, g, h⟩ := hs_bind h
  refine pw_iald' eX1_note_5 ai_41 g ?_
  refine pw_if_eq (tgt := 10) eX1_note_6 (by decide) (fun c => ?_) (fun c => ?_)
  · have h := hs_it c h
    refine pw_aload_n eX1_note_10 rfl ?_
    refine pw_getI eX1_note_11 fl_X1_38 ob_38 rfl ?_
    refine pw_sipush eX1_note_14 ks_150 ?_
    refine pw_icmp_lt (tgt := 26) eX1_note_17 (by decide) (fun c => ?_) (fun c => ?_)
    · have h := hs_it c h
      refine pw_aload_n eX1_note_26 rfl ?_
      refine pw_getR (r := 39) eX1_note_27 fl_X1_9 ob_38 rfl ?_
      refine pw_aload_n eX1_note_30 rfl ?_
      refine pw_getI eX1_note_31 fl_X1_38 ob_38 rfl ?_
      refine pw_iload_n eX1_note_34 rfl ?_
      obtain ⟨σ2, g, h⟩ := hs_bind h
      refine pw_iast' eX1_note_35 ai_39 g ?_
      refine pw_aload_n eX1_note_36 rfl ?_
      refine pw_dup eX1_note_37 rfl ?_
      refine pw_getI eX1_note_38 fl_X1_38 ob_38 rfl ?_
      refine pw_iconst eX1_note_41 ki_1 ?_
      refine pw_iadd eX1_note_42 ?_
      refine pw_putI eX1_note_43 fw_X1_38 ob_38 rfl ?_
      refine pw_aload_n eX1_note_46 rfl ?_
      refine pw_getR (r := 41) eX1_note_47 fl_X1_18 ob_38 rfl ?_
      refine pw_iload_n eX1_note_50 rfl ?_
      refine pw_aload_n eX1_note_51 rfl ?_
      refine pw_getI eX1_note_52 fl_X1_38 ob_38 rfl ?_
      obtain ⟨σ3, g, h⟩ := hs_bind h
      refine pw_iast' eX1_note_55 ai_41 g ?_
      exact pw_vret' eX1_note_56 h
    · have h := hs_ie c h
      refine pw_aload_n eX1_note_20 rfl ?_
      refine pw_iconst eX1_note_21 ki_1 ?_
      refine pw_putZ eX1_note_22 fw_X1_32 ob_38 rfl narrow_b1 rfl ?_
      exact pw_vret' eX1_note_25 h
  · have h := hs_ie c h
    exact pw_vret' eX1_note_9 h

def f_X1_findStates_39 (s1 : Nat) (k : Int32 → Int32 → HS → Option (HS)) : Nat → Int32 → Int32 → Int32 → HS → Option (HS)
  | 0, _, _, _, _ => none
  | n + 1, x2, x3, x4, σ =>
    if (σ.1 s1 4) ≤ x4 then
      k x2 x3 σ
    else
      (ldI (σ.1 (s1 + 1)) 5 x4).bind fun v3 =>
      if (x3 &&& v3) = 0 then
        (ldI (σ.1 (s1 + 1)) 5 x4).bind fun v4 =>
        (f_X1_note (x3 ||| v4) σ).bind fun σ5 =>
        f_X1_findStates_39 s1 k n x2 x3 (x4 + 1) σ5
      else
        f_X1_findStates_39 s1 k n x2 x3 (x4 + 1) σ
set_option maxRecDepth 20000 in
theorem w_X1_findStates_39 {d : Nat} {s1 : Nat} (hs1 : hs_IsS s1) {p : HS} {k : Int32 → Int32 → HS → Option (HS)} (hk : ∀ (x2 : Int32) (x3 : Int32) (σ : HS), k x2 x3 σ = some p → PW RX1 cX1_findStates 5 (hs_zM (d + 2) none (none, p)) 79 [some (.ref 38), some (.ref s1), some (.int x2), some (.int x3), none] [] σ) : ∀ (n : Nat) (x2 : Int32) (x3 : Int32) (x4 : Int32) (σ : HS), f_X1_findStates_39 s1 k n x2 x3 x4 σ = some p → PW RX1 cX1_findStates 5 (hs_zM (d + 2) none (none, p)) 39 [some (.ref 38), some (.ref s1), some (.int x2), some (.int x3), some (.int x4)] [] σ := by
  intro n
  induction n with
  | zero =>
    intro x2 x3 x4 σ h
    rw [f_X1_findStates_39] at h
    cases h
  | succ n ih =>
    intro x2 x3 x4 σ h
    rw [f_X1_findStates_39] at h
    refine pw_iload eX1_findStates_39 rfl ?_
    refine pw_aload_n eX1_findStates_41 rfl ?_
    refine pw_getI eX1_findStates_42 fl_X1_61 hs1.1 rfl ?_
    refine pw_icmp_ge (tgt := 79) eX1_findStates_45 (by decide) (fun c => ?_) (fun c => ?_)
    · have h := hs_it c h
      exact pw_le (hk x2 x3 σ h) ⟨rfl, rfl, rfl, rfl, trivial⟩
    · have h := hs_ie c h
      refine pw_iload_n eX1_findStates_48 rfl ?_
      refine pw_aload_n eX1_findStates_49 rfl ?_
      refine pw_getR (r := (s1 + 1)) eX1_findStates_50 fl_X1_52 hs1.1 rfl ?_
      refine pw_iload eX1_findStates_53 rfl ?_
      obtain ⟨v3, g, h⟩ := hs_bind h
      refine pw_iald' eX1_findStates_55 hs1.2.1 g ?_
      refine pw_iand eX1_findStates_56 ?_
      refine pw_if_ne (tgt := 73) eX1_findStates_57 (by decide) (fun c => ?_) (fun c => ?_)
      · have h := hs_ie c h
        refine pw_iinc eX1_findStates_73 (by decide) rfl ki_1 rfl rfl ?_
        refine pw_goto (pc' := 39) eX1_findStates_76 (by decide) ?_
        exact ih x2 x3 (x4 + 1) σ h
      · have h := hs_it c h
        refine pw_aload_n eX1_findStates_60 rfl ?_
        refine pw_iload_n eX1_findStates_61 rfl ?_
        refine pw_aload_n eX1_findStates_62 rfl ?_
        refine pw_getR (r := (s1 + 1)) eX1_findStates_63 fl_X1_52 hs1.1 rfl ?_
        refine pw_iload eX1_findStates_66 rfl ?_
        obtain ⟨v4, g, h⟩ := hs_bind h
        refine pw_iald' eX1_findStates_68 hs1.2.1 g ?_
        refine pw_ior eX1_findStates_69 ?_
        obtain ⟨σ5, g, h⟩ := hs_bind h
        refine pw_mV1v eX1_findStates_70 mv_X1_57 ob_38 (s_X1_note g) (Nat.le_of_ble_eq_true rfl) ?_
        refine pw_iinc eX1_findStates_73 (by decide) rfl ki_1 rfl rfl ?_
        refine pw_goto (pc' := 39) eX1_findStates_76 (by decide) ?_
        exact ih x2 x3 (x4 + 1) σ5 h
def f_X1_findStates_7 (s1 : Nat) : Nat → Int32 → HS → Option (HS)
  | 0, _, _ => none
  | n + 1, x2, σ =>
    if (150 : Int32) ≤ x2 then
      some σ
    else
      if (σ.1 38 3) ≤ x2 then
        some σ
      else
        if (σ.1 38 5) = 0 then
          (ldI (σ.1 39) 150 x2).bind fun v2 =>
          f_X1_findStates_39 s1 (fun e6 e7 σ8 =>
            (f_X8_passed e7 1 σ8).bind fun q9 =>
          (f_X1_note q9.1 q9.2).bind fun σ10 =>
          f_X1_findStates_7 s1 n (e6 + 1) σ10) FU x2 v2 0 σ
        else
          some σ
set_option maxRecDepth 20000 in
theorem w_X1_findStates_7 {d : Nat} {s1 : Nat} (hs1 : hs_IsS s1) {p : HS} : ∀ (n : Nat) (x2 : Int32) (σ : HS), f_X1_findStates_7 s1 n x2 σ = some p → PW RX1 cX1_findStates 5 (hs_zM (d + 2) none (none, p)) 7 [some (.ref 38), some (.ref s1), some (.int x2), none, none] [] σ := by
  intro n
  induction n with
  | zero =>
    intro x2 σ h
    rw [f_X1_findStates_7] at h
    cases h
  | succ n ih =>
    intro x2 σ h
    rw [f_X1_findStates_7] at h
    refine pw_iload_n eX1_findStates_7 rfl ?_
    refine pw_sipush eX1_findStates_8 ks_150 ?_
    refine pw_icmp_ge (tgt := 94) eX1_findStates_11 (by decide) (fun c => ?_) (fun c => ?_)
    · have h := hs_it c h
      exact pw_vret' eX1_findStates_94 h
    · have h := hs_ie c h
      refine pw_iload_n eX1_findStates_14 rfl ?_
      refine pw_aload_n eX1_findStates_15 rfl ?_
      refine pw_getI eX1_findStates_16 fl_X1_38 ob_38 rfl ?_
      refine pw_icmp_ge (tgt := 94) eX1_findStates_19 (by decide) (fun c => ?_) (fun c => ?_)
      · have h := hs_it c h
        exact pw_vret' eX1_findStates_94 h
      · have h := hs_ie c h
        refine pw_aload_n eX1_findStates_22 rfl ?_
        refine pw_getI eX1_findStates_23 fl_X1_32 ob_38 rfl ?_
        refine pw_if_ne (tgt := 94) eX1_findStates_26 (by decide) (fun c => ?_) (fun c => ?_)
        · have h := hs_ie c h
          exact pw_vret' eX1_findStates_94 h
        · have h := hs_it c h
          refine pw_aload_n eX1_findStates_29 rfl ?_
          refine pw_getR (r := 39) eX1_findStates_30 fl_X1_9 ob_38 rfl ?_
          refine pw_iload_n eX1_findStates_33 rfl ?_
          obtain ⟨v2, g, h⟩ := hs_bind h
          refine pw_iald' eX1_findStates_34 ai_39 g ?_
          refine pw_istore_n eX1_findStates_35 rfl (by decide) rfl rfl ?_
          refine pw_iconst eX1_findStates_36 ki_0 ?_
          refine pw_istore eX1_findStates_37 (by decide) rfl rfl ?_
          refine w_X1_findStates_39 hs1 (fun e6 e7 σ8 h => ?_) FU x2 v2 0 σ h
          refine pw_aload_n eX1_findStates_79 rfl ?_
          refine pw_iload_n eX1_findStates_80 rfl ?_
          refine pw_iconst eX1_findStates_81 ki_1 ?_
          obtain ⟨q9, g, h⟩ := hs_bind h
          refine pw_mN2i eX1_findStates_82 mn_X1_49 (s_X8_passed g) (Nat.le_of_ble_eq_true rfl) ?_
          obtain ⟨σ10, g, h⟩ := hs_bind h
          refine pw_mV1v eX1_findStates_85 mv_X1_57 ob_38 (s_X1_note g) (Nat.le_of_ble_eq_true rfl) ?_
          refine pw_iinc eX1_findStates_88 (by decide) rfl ki_1 rfl rfl ?_
          refine pw_goto (pc' := 7) eX1_findStates_91 (by decide) ?_
          exact pw_le (ih (e6 + 1) σ10 h) ⟨rfl, rfl, rfl, trivial⟩
def f_X1_findStates (s1 : Nat) (σ : HS) : Option (HS) :=
  (f_X1_note 0 σ).bind fun σ1 =>
  f_X1_findStates_7 s1 FU 0 σ1
set_option maxRecDepth 20000 in
theorem s_X1_findStates {d : Nat} {s1 : Nat} (hs1 : hs_IsS s1) {σ : HS} {p : HS} (h : f_X1_findStates s1 σ = some p) : hs_Spec (d + 2) yX1_findStates cX1_findStates 5 none [.ref 38, .ref s1] σ (none, p) := by
  refine hs_spec' (by decide +kernel) rfl (Nat.le_of_ble_eq_true rfl) ?_
  show PW RX1 cX1_findStates 5 (hs_zM (d + 2) none (none, p)) 0 [some (.ref 38), some (.ref s1), none, none, none] [] σ
  rw [f_X1_findStates] at h
  refine pw_aload_n eX1_findStates_0 rfl ?_
  refine pw_iconst eX1_findStates_1 ki_0 ?_
  obtain ⟨σ1, g, h⟩ := hs_bind h
  refine pw_mV1v eX1_findStates_2 mv_X1_57 ob_38 (s_X1_note g) (Nat.le_of_ble_eq_true rfl) ?_
  refine pw_iconst eX1_findStates_5 ki_0 ?_
  refine pw_istore_n eX1_findStates_6 rfl (by decide) rfl rfl ?_
  exact w_X1_findStates_7 hs1 FU 0 σ1 h

def f_X1_clashesOf_19 (s0 : Nat) (k : Int32 → Int32 → Int32 → HS → Option (Int32 × HS)) : Nat → Int32 → Int32 → Int32 → Int32 → Int32 → HS → Option (Int32 × HS)
  | 0, _, _, _, _, _, _ => none
  | n + 1, x1, x2, x3, x4, x5, σ =>
    if (σ.1 s0 4) ≤ x5 then
      k x1 x2 x3 σ
    else
      (ldI (σ.1 (s0 + 1)) 5 x5).bind fun v2 =>
      if (x4 &&& v2) = 0 then
        f_X1_clashesOf_19 s0 k n x1 x2 x3 x4 (x5 + 1) σ
      else
        f_X1_clashesOf_19 s0 k n x1 (x2 ||| ((1 : Int32) <<< (((x3 * 5) + x5) &&& 31))) x3 x4 (x5 + 1) σ
set_option maxRecDepth 20000 in
theorem w_X1_clashesOf_19 {d : Nat} {s0 : Nat} (hs0 : hs_IsS s0) {p : Int32 × HS} {k : Int32 → Int32 → Int32 → HS → Option (Int32 × HS)} (hk : ∀ (x1 : Int32) (x2 : Int32) (x3 : Int32) (σ : HS), k x1 x2 x3 σ = some p → PW RX1 cX1_clashesOf 6 (hs_zM (d + 2) (some .int) (some (.int p.1), p.2)) 58 [some (.ref s0), some (.int x1), some (.int x2), some (.int x3), none, none] [] σ) : ∀ (n : Nat) (x1 : Int32) (x2 : Int32) (x3 : Int32) (x4 : Int32) (x5 : Int32) (σ : HS), f_X1_clashesOf_19 s0 k n x1 x2 x3 x4 x5 σ = some p → PW RX1 cX1_clashesOf 6 (hs_zM (d + 2) (some .int) (some (.int p.1), p.2)) 19 [some (.ref s0), some (.int x1), some (.int x2), some (.int x3), some (.int x4), some (.int x5)] [] σ := by
  intro n
  induction n with
  | zero =>
    intro x1 x2 x3 x4 x5 σ h
    rw [f_X1_clashesOf_19] at h
    cases h
  | succ n ih =>
    intro x1 x2 x3 x4 x5 σ h
    rw [f_X1_clashesOf_19] at h
    refine pw_iload eX1_clashesOf_19 rfl ?_
    refine pw_aload_n eX1_clashesOf_21 rfl ?_
    refine pw_getI eX1_clashesOf_22 fl_X1_61 hs0.1 rfl ?_
    refine pw_icmp_ge (tgt := 58) eX1_clashesOf_25 (by decide) (fun c => ?_) (fun c => ?_)
    · have h := hs_it c h
      exact pw_le (hk x1 x2 x3 σ h) ⟨rfl, rfl, rfl, rfl, trivial⟩
    · have h := hs_ie c h
      refine pw_iload eX1_clashesOf_28 rfl ?_
      refine pw_aload_n eX1_clashesOf_30 rfl ?_
      refine pw_getR (r := (s0 + 1)) eX1_clashesOf_31 fl_X1_52 hs0.1 rfl ?_
      refine pw_iload eX1_clashesOf_34 rfl ?_
      obtain ⟨v2, g, h⟩ := hs_bind h
      refine pw_iald' eX1_clashesOf_36 hs0.2.1 g ?_
      refine pw_iand eX1_clashesOf_37 ?_
      refine pw_if_eq (tgt := 52) eX1_clashesOf_38 (by decide) (fun c => ?_) (fun c => ?_)
      · have h := hs_it c h
        refine pw_iinc eX1_clashesOf_52 (by decide) rfl ki_1 rfl rfl ?_
        refine pw_goto (pc' := 19) eX1_clashesOf_55 (by decide) ?_
        exact ih x1 x2 x3 x4 (x5 + 1) σ h
      · have h := hs_ie c h
        refine pw_iload_n eX1_clashesOf_41 rfl ?_
        refine pw_iconst eX1_clashesOf_42 ki_1 ?_
        refine pw_iload_n eX1_clashesOf_43 rfl ?_
        refine pw_iconst eX1_clashesOf_44 ki_5 ?_
        refine pw_imul eX1_clashesOf_45 ?_
        refine pw_iload eX1_clashesOf_46 rfl ?_
        refine pw_iadd eX1_clashesOf_48 ?_
        refine pw_ishl eX1_clashesOf_49 ?_
        refine pw_ior eX1_clashesOf_50 ?_
        refine pw_istore_n eX1_clashesOf_51 rfl (by decide) rfl rfl ?_
        refine pw_iinc eX1_clashesOf_52 (by decide) rfl ki_1 rfl rfl ?_
        refine pw_goto (pc' := 19) eX1_clashesOf_55 (by decide) ?_
        exact ih x1 (x2 ||| ((1 : Int32) <<< (((x3 * 5) + x5) &&& 31))) x3 x4 (x5 + 1) σ h
def f_X1_clashesOf_4 (s0 : Nat) : Nat → Int32 → Int32 → Int32 → HS → Option (Int32 × HS)
  | 0, _, _, _, _ => none
  | n + 1, x1, x2, x3, σ =>
    if (4 : Int32) ≤ x3 then
      some (x2, σ)
    else
      (f_X8_passed x1 x3 σ).bind fun q1 =>
      f_X1_clashesOf_19 s0 (fun e3 e4 e5 σ6 =>
        f_X1_clashesOf_4 s0 n e3 e4 (e5 + 1) σ6) FU x1 x2 x3 q1.1 0 q1.2
set_option maxRecDepth 20000 in
theorem w_X1_clashesOf_4 {d : Nat} {s0 : Nat} (hs0 : hs_IsS s0) {p : Int32 × HS} : ∀ (n : Nat) (x1 : Int32) (x2 : Int32) (x3 : Int32) (σ : HS), f_X1_clashesOf_4 s0 n x1 x2 x3 σ = some p → PW RX1 cX1_clashesOf 6 (hs_zM (d + 2) (some .int) (some (.int p.1), p.2)) 4 [some (.ref s0), some (.int x1), some (.int x2), some (.int x3), none, none] [] σ := by
  intro n
  induction n with
  | zero =>
    intro x1 x2 x3 σ h
    rw [f_X1_clashesOf_4] at h
    cases h
  | succ n ih =>
    intro x1 x2 x3 σ h
    rw [f_X1_clashesOf_4] at h
    refine pw_iload_n eX1_clashesOf_4 rfl ?_
    refine pw_iconst eX1_clashesOf_5 ki_4 ?_
    refine pw_icmp_ge (tgt := 64) eX1_clashesOf_6 (by decide) (fun c => ?_) (fun c => ?_)
    · have h := hs_it c h
      refine pw_iload_n eX1_clashesOf_64 rfl ?_
      exact pw_iret' eX1_clashesOf_65 h
    · have h := hs_ie c h
      refine pw_iload_n eX1_clashesOf_9 rfl ?_
      refine pw_iload_n eX1_clashesOf_10 rfl ?_
      obtain ⟨q1, g, h⟩ := hs_bind h
      refine pw_mN2i eX1_clashesOf_11 mn_X1_49 (s_X8_passed g) (Nat.le_of_ble_eq_true rfl) ?_
      refine pw_istore eX1_clashesOf_14 (by decide) rfl rfl ?_
      refine pw_iconst eX1_clashesOf_16 ki_0 ?_
      refine pw_istore eX1_clashesOf_17 (by decide) rfl rfl ?_
      refine w_X1_clashesOf_19 hs0 (fun e3 e4 e5 σ6 h => ?_) FU x1 x2 x3 q1.1 0 q1.2 h
      refine pw_iinc eX1_clashesOf_58 (by decide) rfl ki_1 rfl rfl ?_
      refine pw_goto (pc' := 4) eX1_clashesOf_61 (by decide) ?_
      exact ih e3 e4 (e5 + 1) σ6 h
def f_X1_clashesOf (s0 : Nat) (x1 : Int32) (σ : HS) : Option (Int32 × HS) :=
  f_X1_clashesOf_4 s0 FU x1 0 0 σ
set_option maxRecDepth 20000 in
theorem s_X1_clashesOf {d : Nat} {s0 : Nat} (hs0 : hs_IsS s0) {x1 : Int32} {σ : HS} {p : Int32 × HS} (h : f_X1_clashesOf s0 x1 σ = some p) : hs_Spec (d + 2) yX1_clashesOf cX1_clashesOf 6 (some .int) [.ref s0, .int x1] σ (some (.int p.1), p.2) := by
  refine hs_spec' (by decide +kernel) rfl (Nat.le_of_ble_eq_true rfl) ?_
  show PW RX1 cX1_clashesOf 6 (hs_zM (d + 2) (some .int) (some (.int p.1), p.2)) 0 [some (.ref s0), some (.int x1), none, none, none, none] [] σ
  rw [f_X1_clashesOf] at h
  refine pw_iconst eX1_clashesOf_0 ki_0 ?_
  refine pw_istore_n eX1_clashesOf_1 rfl (by decide) rfl rfl ?_
  refine pw_iconst eX1_clashesOf_2 ki_0 ?_
  refine pw_istore_n eX1_clashesOf_3 rfl (by decide) rfl rfl ?_
  exact w_X1_clashesOf_4 hs0 FU x1 0 0 σ h

def f_X1_isFirstOfClass_2 : Nat → Int32 → Int32 → HS → Option (Int32 × HS)
  | 0, _, _, _ => none
  | n + 1, x1, x2, σ =>
    if x1 ≤ x2 then
      some (1, σ)
    else
      (ldI (σ.1 40) 150 x2).bind fun v1 =>
      (ldI (σ.1 40) 150 x1).bind fun v2 =>
      if v1 = v2 then
        some (0, σ)
      else
        f_X1_isFirstOfClass_2 n x1 (x2 + 1) σ
set_option maxRecDepth 20000 in
theorem w_X1_isFirstOfClass_2 {d : Nat} {p : Int32 × HS} : ∀ (n : Nat) (x1 : Int32) (x2 : Int32) (σ : HS), f_X1_isFirstOfClass_2 n x1 x2 σ = some p → PW RX1 cX1_isFirstOfClass 3 (hs_zM (d + 1) (some .boolean) (some (.int p.1), p.2)) 2 [some (.ref 38), some (.int x1), some (.int x2)] [] σ := by
  intro n
  induction n with
  | zero =>
    intro x1 x2 σ h
    rw [f_X1_isFirstOfClass_2] at h
    cases h
  | succ n ih =>
    intro x1 x2 σ h
    rw [f_X1_isFirstOfClass_2] at h
    refine pw_iload_n eX1_isFirstOfClass_2 rfl ?_
    refine pw_iload_n eX1_isFirstOfClass_3 rfl ?_
    refine pw_icmp_ge (tgt := 30) eX1_isFirstOfClass_4 (by decide) (fun c => ?_) (fun c => ?_)
    · have h := hs_it c h
      refine pw_iconst eX1_isFirstOfClass_30 ki_1 ?_
      exact pw_zret' eX1_isFirstOfClass_31 narrow_b1 h
    · have h := hs_ie c h
      refine pw_aload_n eX1_isFirstOfClass_7 rfl ?_
      refine pw_getR (r := 40) eX1_isFirstOfClass_8 fl_X1_15 ob_38 rfl ?_
      refine pw_iload_n eX1_isFirstOfClass_11 rfl ?_
      obtain ⟨v1, g, h⟩ := hs_bind h
      refine pw_iald' eX1_isFirstOfClass_12 ai_40 g ?_
      refine pw_aload_n eX1_isFirstOfClass_13 rfl ?_
      refine pw_getR (r := 40) eX1_isFirstOfClass_14 fl_X1_15 ob_38 rfl ?_
      refine pw_iload_n eX1_isFirstOfClass_17 rfl ?_
      obtain ⟨v2, g, h⟩ := hs_bind h
      refine pw_iald' eX1_isFirstOfClass_18 ai_40 g ?_
      refine pw_icmp_ne (tgt := 24) eX1_isFirstOfClass_19 (by decide) (fun c => ?_) (fun c => ?_)
      · have h := hs_ie c h
        refine pw_iinc eX1_isFirstOfClass_24 (by decide) rfl ki_1 rfl rfl ?_
        refine pw_goto (pc' := 2) eX1_isFirstOfClass_27 (by decide) ?_
        exact ih x1 (x2 + 1) σ h
      · have h := hs_it c h
        refine pw_iconst eX1_isFirstOfClass_22 ki_0 ?_
        exact pw_zret' eX1_isFirstOfClass_23 narrow_b0 h
def f_X1_isFirstOfClass (x1 : Int32) (σ : HS) : Option (Int32 × HS) :=
  f_X1_isFirstOfClass_2 FU x1 0 σ
set_option maxRecDepth 20000 in
theorem s_X1_isFirstOfClass {d : Nat} {x1 : Int32} {σ : HS} {p : Int32 × HS} (h : f_X1_isFirstOfClass x1 σ = some p) : hs_Spec (d + 1) yX1_isFirstOfClass cX1_isFirstOfClass 3 (some .boolean) [.ref 38, .int x1] σ (some (.int p.1), p.2) := by
  refine hs_spec' (by decide +kernel) rfl (Nat.le_of_ble_eq_true rfl) ?_
  show PW RX1 cX1_isFirstOfClass 3 (hs_zM (d + 1) (some .boolean) (some (.int p.1), p.2)) 0 [some (.ref 38), some (.int x1), none] [] σ
  rw [f_X1_isFirstOfClass] at h
  refine pw_iconst eX1_isFirstOfClass_0 ki_0 ?_
  refine pw_istore_n eX1_isFirstOfClass_1 rfl (by decide) rfl rfl ?_
  exact w_X1_isFirstOfClass_2 FU x1 0 σ h

def f_X1_tellClasses_7 (s1 : Nat) : Nat → Int32 → HS → Option (HS)
  | 0, _, _ => none
  | n + 1, x2, σ =>
    if (σ.1 38 3) ≤ x2 then
      some σ
    else
      (ldI (σ.1 39) 150 x2).bind fun v1 =>
      (f_X1_clashesOf s1 v1 σ).bind fun q2 =>
      (stI q2.2 40 150 x2 q2.1).bind fun σ3 =>
      (f_X1_isFirstOfClass x2 σ3).bind fun q4 =>
      if q4.1 = 0 then
        f_X1_tellClasses_7 s1 n (x2 + 1) q4.2
      else
        f_X1_tellClasses_7 s1 n (x2 + 1) (sI q4.2 38 4 ((q4.2.1 38 4) + 1))
set_option maxRecDepth 20000 in
theorem w_X1_tellClasses_7 {d : Nat} {s1 : Nat} (hs1 : hs_IsS s1) {p : HS} : ∀ (n : Nat) (x2 : Int32) (σ : HS), f_X1_tellClasses_7 s1 n x2 σ = some p → PW RX1 cX1_tellClasses 3 (hs_zM (d + 3) none (none, p)) 7 [some (.ref 38), some (.ref s1), some (.int x2)] [] σ := by
  intro n
  induction n with
  | zero =>
    intro x2 σ h
    rw [f_X1_tellClasses_7] at h
    cases h
  | succ n ih =>
    intro x2 σ h
    rw [f_X1_tellClasses_7] at h
    refine pw_iload_n eX1_tellClasses_7 rfl ?_
    refine pw_aload_n eX1_tellClasses_8 rfl ?_
    refine pw_getI eX1_tellClasses_9 fl_X1_38 ob_38 rfl ?_
    refine pw_icmp_ge (tgt := 55) eX1_tellClasses_12 (by decide) (fun c => ?_) (fun c => ?_)
    · have h := hs_it c h
      exact pw_vret' eX1_tellClasses_55 h
    · have h := hs_ie c h
      refine pw_aload_n eX1_tellClasses_15 rfl ?_
      refine pw_getR (r := 40) eX1_tellClasses_16 fl_X1_15 ob_38 rfl ?_
      refine pw_iload_n eX1_tellClasses_19 rfl ?_
      refine pw_aload_n eX1_tellClasses_20 rfl ?_
      refine pw_aload_n eX1_tellClasses_21 rfl ?_
      refine pw_getR (r := 39) eX1_tellClasses_22 fl_X1_9 ob_38 rfl ?_
      refine pw_iload_n eX1_tellClasses_25 rfl ?_
      obtain ⟨v1, g, h⟩ := hs_bind h
      refine pw_iald' eX1_tellClasses_26 ai_39 g ?_
      obtain ⟨q2, g, h⟩ := hs_bind h
      refine pw_mS2i eX1_tellClasses_27 ms_X1_64 (s_X1_clashesOf hs1 g) (Nat.le_of_ble_eq_true rfl) ?_
      obtain ⟨σ3, g, h⟩ := hs_bind h
      refine pw_iast' eX1_tellClasses_30 ai_40 g ?_
      refine pw_aload_n eX1_tellClasses_31 rfl ?_
      refine pw_iload_n eX1_tellClasses_32 rfl ?_
      obtain ⟨q4, g, h⟩ := hs_bind h
      refine pw_mV1i eX1_tellClasses_33 mv_X1_68 ob_38 (s_X1_isFirstOfClass g) (Nat.le_of_ble_eq_true rfl) ?_
      refine pw_if_eq (tgt := 49) eX1_tellClasses_36 (by decide) (fun c => ?_) (fun c => ?_)
      · have h := hs_it c h
        refine pw_iinc eX1_tellClasses_49 (by decide) rfl ki_1 rfl rfl ?_
        refine pw_goto (pc' := 7) eX1_tellClasses_52 (by decide) ?_
        exact ih (x2 + 1) q4.2 h
      · have h := hs_ie c h
        refine pw_aload_n eX1_tellClasses_39 rfl ?_
        refine pw_dup eX1_tellClasses_40 rfl ?_
        refine pw_getI eX1_tellClasses_41 fl_X1_42 ob_38 rfl ?_
        refine pw_iconst eX1_tellClasses_44 ki_1 ?_
        refine pw_iadd eX1_tellClasses_45 ?_
        refine pw_putI eX1_tellClasses_46 fw_X1_42 ob_38 rfl ?_
        refine pw_iinc eX1_tellClasses_49 (by decide) rfl ki_1 rfl rfl ?_
        refine pw_goto (pc' := 7) eX1_tellClasses_52 (by decide) ?_
        exact ih (x2 + 1) (sI q4.2 38 4 ((q4.2.1 38 4) + 1)) h
def f_X1_tellClasses (s1 : Nat) (σ : HS) : Option (HS) :=
  f_X1_tellClasses_7 s1 FU 0 (sI σ 38 4 0)
set_option maxRecDepth 20000 in
theorem s_X1_tellClasses {d : Nat} {s1 : Nat} (hs1 : hs_IsS s1) {σ : HS} {p : HS} (h : f_X1_tellClasses s1 σ = some p) : hs_Spec (d + 3) yX1_tellClasses cX1_tellClasses 3 none [.ref 38, .ref s1] σ (none, p) := by
  refine hs_spec' (by decide +kernel) rfl (Nat.le_of_ble_eq_true rfl) ?_
  show PW RX1 cX1_tellClasses 3 (hs_zM (d + 3) none (none, p)) 0 [some (.ref 38), some (.ref s1), none] [] σ
  rw [f_X1_tellClasses] at h
  refine pw_aload_n eX1_tellClasses_0 rfl ?_
  refine pw_iconst eX1_tellClasses_1 ki_0 ?_
  refine pw_putI eX1_tellClasses_2 fw_X1_42 ob_38 rfl ?_
  refine pw_iconst eX1_tellClasses_5 ki_0 ?_
  refine pw_istore_n eX1_tellClasses_6 rfl (by decide) rfl rfl ?_
  exact w_X1_tellClasses_7 hs1 FU 0 (sI σ 38 4 0) h

def f_X1_learn (s1 : Nat) (σ : HS) : Option (HS) :=
  if (σ.1 38 6) = 0 then
    (f_X1_forgetStates σ).bind fun σ1 =>
    (f_X1_findStates s1 σ1).bind fun σ2 =>
    if (σ2.1 38 5) = 0 then
      (f_X1_tellClasses s1 σ2).bind fun σ3 =>
      some (sI σ3 38 6 1)
    else
      some (sI σ2 38 6 1)
  else
    some σ
set_option maxRecDepth 20000 in
theorem s_X1_learn {d : Nat} {s1 : Nat} (hs1 : hs_IsS s1) {σ : HS} {p : HS} (h : f_X1_learn s1 σ = some p) : hs_Spec (d + 4) yX1_learn cX1_learn 2 none [.ref 38, .ref s1] σ (none, p) := by
  refine hs_spec' (by decide +kernel) rfl (Nat.le_of_ble_eq_true rfl) ?_
  show PW RX1 cX1_learn 2 (hs_zM (d + 4) none (none, p)) 0 [some (.ref 38), some (.ref s1)] [] σ
  rw [f_X1_learn] at h
  refine pw_aload_n eX1_learn_0 rfl ?_
  refine pw_getI eX1_learn_1 fl_X1_21 ob_38 rfl ?_
  refine pw_if_eq (tgt := 8) eX1_learn_4 (by decide) (fun c => ?_) (fun c => ?_)
  · have h := hs_it c h
    refine pw_aload_n eX1_learn_8 rfl ?_
    obtain ⟨σ1, g, h⟩ := hs_bind h
    refine pw_mV0v eX1_learn_9 mv_X1_25 ob_38 (s_X1_forgetStates g) (Nat.le_of_ble_eq_true rfl) ?_
    refine pw_aload_n eX1_learn_12 rfl ?_
    refine pw_aload_n eX1_learn_13 rfl ?_
    obtain ⟨σ2, g, h⟩ := hs_bind h
    refine pw_mV1v eX1_learn_14 mv_X1_28 ob_38 (s_X1_findStates hs1 g) (Nat.le_of_ble_eq_true rfl) ?_
    refine pw_aload_n eX1_learn_17 rfl ?_
    refine pw_getI eX1_learn_18 fl_X1_32 ob_38 rfl ?_
    refine pw_if_ne (tgt := 29) eX1_learn_21 (by decide) (fun c => ?_) (fun c => ?_)
    · have h := hs_ie c h
      refine pw_aload_n eX1_learn_29 rfl ?_
      refine pw_iconst eX1_learn_30 ki_1 ?_
      refine pw_putZ eX1_learn_31 fw_X1_21 ob_38 rfl narrow_b1 rfl ?_
      exact pw_vret' eX1_learn_34 h
    · have h := hs_it c h
      refine pw_aload_n eX1_learn_24 rfl ?_
      refine pw_aload_n eX1_learn_25 rfl ?_
      obtain ⟨σ3, g, h⟩ := hs_bind h
      refine pw_mV1v eX1_learn_26 mv_X1_35 ob_38 (s_X1_tellClasses hs1 g) (Nat.le_of_ble_eq_true rfl) ?_
      refine pw_aload_n eX1_learn_29 rfl ?_
      refine pw_iconst eX1_learn_30 ki_1 ?_
      refine pw_putZ eX1_learn_31 fw_X1_21 ob_38 rfl narrow_b1 rfl ?_
      exact pw_vret' eX1_learn_34 h
  · have h := hs_ie c h
    exact pw_vret' eX1_learn_7 h

def f_X1_statesOrMuch (σ : HS) : Option (Int32 × HS) :=
  if (σ.1 38 5) = 0 then
    some ((σ.1 38 3), σ)
  else
    some ((-5), σ)
set_option maxRecDepth 20000 in
theorem s_X1_statesOrMuch {d : Nat} {σ : HS} {p : Int32 × HS} (h : f_X1_statesOrMuch σ = some p) : hs_Spec (d + 1) yX1_statesOrMuch cX1_statesOrMuch 1 (some .int) [.ref 38] σ (some (.int p.1), p.2) := by
  refine hs_spec' (by decide +kernel) rfl (Nat.le_of_ble_eq_true rfl) ?_
  show PW RX1 cX1_statesOrMuch 1 (hs_zM (d + 1) (some .int) (some (.int p.1), p.2)) 0 [some (.ref 38)] [] σ
  rw [f_X1_statesOrMuch] at h
  refine pw_aload_n eX1_statesOrMuch_0 rfl ?_
  refine pw_getI eX1_statesOrMuch_1 fl_X1_32 ob_38 rfl ?_
  refine pw_if_eq (tgt := 12) eX1_statesOrMuch_4 (by decide) (fun c => ?_) (fun c => ?_)
  · have h := hs_it c h
    refine pw_aload_n eX1_statesOrMuch_12 rfl ?_
    refine pw_getI eX1_statesOrMuch_13 fl_X1_38 ob_38 rfl ?_
    exact pw_iret' eX1_statesOrMuch_16 h
  · have h := hs_ie c h
    refine pw_bipush eX1_statesOrMuch_7 kb_m5 ?_
    refine pw_goto (pc' := 16) eX1_statesOrMuch_9 (by decide) ?_
    exact pw_iret' eX1_statesOrMuch_16 h

def f_X1_classesOrMuch (σ : HS) : Option (Int32 × HS) :=
  if (σ.1 38 5) = 0 then
    some ((σ.1 38 4), σ)
  else
    some ((-5), σ)
set_option maxRecDepth 20000 in
theorem s_X1_classesOrMuch {d : Nat} {σ : HS} {p : Int32 × HS} (h : f_X1_classesOrMuch σ = some p) : hs_Spec (d + 1) yX1_classesOrMuch cX1_classesOrMuch 1 (some .int) [.ref 38] σ (some (.int p.1), p.2) := by
  refine hs_spec' (by decide +kernel) rfl (Nat.le_of_ble_eq_true rfl) ?_
  show PW RX1 cX1_classesOrMuch 1 (hs_zM (d + 1) (some .int) (some (.int p.1), p.2)) 0 [some (.ref 38)] [] σ
  rw [f_X1_classesOrMuch] at h
  refine pw_aload_n eX1_classesOrMuch_0 rfl ?_
  refine pw_getI eX1_classesOrMuch_1 fl_X1_32 ob_38 rfl ?_
  refine pw_if_eq (tgt := 12) eX1_classesOrMuch_4 (by decide) (fun c => ?_) (fun c => ?_)
  · have h := hs_it c h
    refine pw_aload_n eX1_classesOrMuch_12 rfl ?_
    refine pw_getI eX1_classesOrMuch_13 fl_X1_42 ob_38 rfl ?_
    exact pw_iret' eX1_classesOrMuch_16 h
  · have h := hs_ie c h
    refine pw_bipush eX1_classesOrMuch_7 kb_m5 ?_
    refine pw_goto (pc' := 16) eX1_classesOrMuch_9 (by decide) ?_
    exact pw_iret' eX1_classesOrMuch_16 h

def f_X1_hasState (x1 : Int32) (σ : HS) : Option (Int32 × HS) :=
  if x1 < 0 then
    some (0, σ)
  else
    if (σ.1 38 3) ≤ x1 then
      some (0, σ)
    else
      some (1, σ)
set_option maxRecDepth 20000 in
theorem s_X1_hasState {d : Nat} {x1 : Int32} {σ : HS} {p : Int32 × HS} (h : f_X1_hasState x1 σ = some p) : hs_Spec (d + 1) yX1_hasState cX1_hasState 2 (some .boolean) [.ref 38, .int x1] σ (some (.int p.1), p.2) := by
  refine hs_spec' (by decide +kernel) rfl (Nat.le_of_ble_eq_true rfl) ?_
  show PW RX1 cX1_hasState 2 (hs_zM (d + 1) (some .boolean) (some (.int p.1), p.2)) 0 [some (.ref 38), some (.int x1)] [] σ
  rw [f_X1_hasState] at h
  refine pw_iload_n eX1_hasState_0 rfl ?_
  refine pw_if_lt (tgt := 16) eX1_hasState_1 (by decide) (fun c => ?_) (fun c => ?_)
  · have h := hs_it c h
    refine pw_iconst eX1_hasState_16 ki_0 ?_
    exact pw_zret' eX1_hasState_17 narrow_b0 h
  · have h := hs_ie c h
    refine pw_iload_n eX1_hasState_4 rfl ?_
    refine pw_aload_n eX1_hasState_5 rfl ?_
    refine pw_getI eX1_hasState_6 fl_X1_38 ob_38 rfl ?_
    refine pw_icmp_ge (tgt := 16) eX1_hasState_9 (by decide) (fun c => ?_) (fun c => ?_)
    · have h := hs_it c h
      refine pw_iconst eX1_hasState_16 ki_0 ?_
      exact pw_zret' eX1_hasState_17 narrow_b0 h
    · have h := hs_ie c h
      refine pw_iconst eX1_hasState_12 ki_1 ?_
      refine pw_goto (pc' := 17) eX1_hasState_13 (by decide) ?_
      exact pw_zret' eX1_hasState_17 narrow_b1 h

def f_X1_sameClass (x1 : Int32) (x2 : Int32) (σ : HS) : Option (Int32 × HS) :=
  (ldI (σ.1 40) 150 x1).bind fun v1 =>
  (ldI (σ.1 40) 150 x2).bind fun v2 =>
  if v1 = v2 then
    some (1, σ)
  else
    some (0, σ)
set_option maxRecDepth 20000 in
theorem s_X1_sameClass {d : Nat} {x1 : Int32} {x2 : Int32} {σ : HS} {p : Int32 × HS} (h : f_X1_sameClass x1 x2 σ = some p) : hs_Spec (d + 1) yX1_sameClass cX1_sameClass 3 (some .boolean) [.ref 38, .int x1, .int x2] σ (some (.int p.1), p.2) := by
  refine hs_spec' (by decide +kernel) rfl (Nat.le_of_ble_eq_true rfl) ?_
  show PW RX1 cX1_sameClass 3 (hs_zM (d + 1) (some .boolean) (some (.int p.1), p.2)) 0 [some (.ref 38), some (.int x1), some (.int x2)] [] σ
  rw [f_X1_sameClass] at h
  refine pw_aload_n eX1_sameClass_0 rfl ?_
  refine pw_getR (r := 40) eX1_sameClass_1 fl_X1_15 ob_38 rfl ?_
  refine pw_iload_n eX1_sameClass_4 rfl ?_
  obtain ⟨v1, g, h⟩ := hs_bind h
  refine pw_iald' eX1_sameClass_5 ai_40 g ?_
  refine pw_aload_n eX1_sameClass_6 rfl ?_
  refine pw_getR (r := 40) eX1_sameClass_7 fl_X1_15 ob_38 rfl ?_
  refine pw_iload_n eX1_sameClass_10 rfl ?_
  obtain ⟨v2, g, h⟩ := hs_bind h
  refine pw_iald' eX1_sameClass_11 ai_40 g ?_
  refine pw_icmp_ne (tgt := 19) eX1_sameClass_12 (by decide) (fun c => ?_) (fun c => ?_)
  · have h := hs_ie c h
    refine pw_iconst eX1_sameClass_19 ki_0 ?_
    exact pw_zret' eX1_sameClass_20 narrow_b0 h
  · have h := hs_it c h
    refine pw_iconst eX1_sameClass_15 ki_1 ?_
    refine pw_goto (pc' := 20) eX1_sameClass_16 (by decide) ?_
    exact pw_zret' eX1_sameClass_20 narrow_b1 h

def f_X1_stateFact (s1 : Nat) (x2 : Int32) (x3 : Int32) (σ : HS) : Option (Int32 × HS) :=
  (ldI (σ.1 39) 150 x2).bind fun v1 =>
  if (3 : Int32) ≤ x3 then
    if x3 = 3 then
      (f_X8_passed v1 1 σ).bind fun q4 =>
      (ldI (q4.2.1 41) 4096 q4.1).bind fun v5 =>
      some ((v5 - 1), q4.2)
    else
      (ldI (σ.1 (s1 + 1)) 5 ((x3 - 3) - 1)).bind fun v2 =>
      if (v1 &&& v2) = 0 then
        (ldI (σ.1 41) 4096 (v1 ||| v2)).bind fun v3 =>
        some ((v3 - 1), σ)
      else
        some ((-1), σ)
  else
    (f_X8_unitOf v1 x3 σ).bind fun q6 =>
    some (q6.1, q6.2)
set_option maxRecDepth 20000 in
theorem s_X1_stateFact {d : Nat} {s1 : Nat} (hs1 : hs_IsS s1) {x2 : Int32} {x3 : Int32} {σ : HS} {p : Int32 × HS} (h : f_X1_stateFact s1 x2 x3 σ = some p) : hs_Spec (d + 2) yX1_stateFact cX1_stateFact 6 (some .int) [.ref 38, .ref s1, .int x2, .int x3] σ (some (.int p.1), p.2) := by
  refine hs_spec' (by decide +kernel) rfl (Nat.le_of_ble_eq_true rfl) ?_
  show PW RX1 cX1_stateFact 6 (hs_zM (d + 2) (some .int) (some (.int p.1), p.2)) 0 [some (.ref 38), some (.ref s1), some (.int x2), some (.int x3), none, none] [] σ
  rw [f_X1_stateFact] at h
  refine pw_aload_n eX1_stateFact_0 rfl ?_
  refine pw_getR (r := 39) eX1_stateFact_1 fl_X1_9 ob_38 rfl ?_
  refine pw_iload_n eX1_stateFact_4 rfl ?_
  obtain ⟨v1, g, h⟩ := hs_bind h
  refine pw_iald' eX1_stateFact_5 ai_39 g ?_
  refine pw_istore eX1_stateFact_6 (by decide) rfl rfl ?_
  refine pw_iload_n eX1_stateFact_8 rfl ?_
  refine pw_iconst eX1_stateFact_9 ki_3 ?_
  refine pw_icmp_ge (tgt := 20) eX1_stateFact_10 (by decide) (fun c => ?_) (fun c => ?_)
  · have h := hs_it c h
    refine pw_iload_n eX1_stateFact_20 rfl ?_
    refine pw_iconst eX1_stateFact_21 ki_3 ?_
    refine pw_icmp_ne (tgt := 39) eX1_stateFact_22 (by decide) (fun c => ?_) (fun c => ?_)
    · have h := hs_ie c h
      refine pw_aload_n eX1_stateFact_39 rfl ?_
      refine pw_getR (r := (s1 + 1)) eX1_stateFact_40 fl_X1_52 hs1.1 rfl ?_
      refine pw_iload_n eX1_stateFact_43 rfl ?_
      refine pw_iconst eX1_stateFact_44 ki_3 ?_
      refine pw_isub eX1_stateFact_45 ?_
      refine pw_iconst eX1_stateFact_46 ki_1 ?_
      refine pw_isub eX1_stateFact_47 ?_
      obtain ⟨v2, g, h⟩ := hs_bind h
      refine pw_iald' eX1_stateFact_48 hs1.2.1 g ?_
      refine pw_istore eX1_stateFact_49 (by decide) rfl rfl ?_
      refine pw_iload eX1_stateFact_51 rfl ?_
      refine pw_iload eX1_stateFact_53 rfl ?_
      refine pw_iand eX1_stateFact_55 ?_
      refine pw_if_eq (tgt := 63) eX1_stateFact_56 (by decide) (fun c => ?_) (fun c => ?_)
      · have h := hs_it c h
        refine pw_aload_n eX1_stateFact_63 rfl ?_
        refine pw_getR (r := 41) eX1_stateFact_64 fl_X1_18 ob_38 rfl ?_
        refine pw_iload eX1_stateFact_67 rfl ?_
        refine pw_iload eX1_stateFact_69 rfl ?_
        refine pw_ior eX1_stateFact_71 ?_
        obtain ⟨v3, g, h⟩ := hs_bind h
        refine pw_iald' eX1_stateFact_72 ai_41 g ?_
        refine pw_iconst eX1_stateFact_73 ki_1 ?_
        refine pw_isub eX1_stateFact_74 ?_
        exact pw_iret' eX1_stateFact_75 h
      · have h := hs_ie c h
        refine pw_iconst eX1_stateFact_59 ki_m1 ?_
        refine pw_goto (pc' := 75) eX1_stateFact_60 (by decide) ?_
        exact pw_iret' eX1_stateFact_75 h
    · have h := hs_it c h
      refine pw_aload_n eX1_stateFact_25 rfl ?_
      refine pw_getR (r := 41) eX1_stateFact_26 fl_X1_18 ob_38 rfl ?_
      refine pw_iload eX1_stateFact_29 rfl ?_
      refine pw_iconst eX1_stateFact_31 ki_1 ?_
      obtain ⟨q4, g, h⟩ := hs_bind h
      refine pw_mN2i eX1_stateFact_32 mn_X1_49 (s_X8_passed g) (Nat.le_of_ble_eq_true rfl) ?_
      obtain ⟨v5, g, h⟩ := hs_bind h
      refine pw_iald' eX1_stateFact_35 ai_41 g ?_
      refine pw_iconst eX1_stateFact_36 ki_1 ?_
      refine pw_isub eX1_stateFact_37 ?_
      exact pw_iret' eX1_stateFact_38 h
  · have h := hs_ie c h
    refine pw_iload eX1_stateFact_13 rfl ?_
    refine pw_iload_n eX1_stateFact_15 rfl ?_
    obtain ⟨q6, g, h⟩ := hs_bind h
    refine pw_mN2i eX1_stateFact_16 mn_X1_45 (s_X8_unitOf g) (Nat.le_of_ble_eq_true rfl) ?_
    exact pw_iret' eX1_stateFact_19 h
