def f_X3_measureApart_48 (k : Int32 → Int32 → Int32 → HS → Option (HS)) : Nat → Int32 → Int32 → Int32 → HS → Option (HS)
  | 0, _, _, _, _ => none
  | n + 1, x3, x4, x5, σ =>
    if (4 : Int32) ≤ x5 then
      k x3 x4 x5 σ
    else
      (f_X0_clashes x3 0 x4 x5 σ).bind fun q4 =>
      if q4.1 = 0 then
        k x3 x4 x5 q4.2
      else
        f_X3_measureApart_48 k n x3 x4 (x5 + 1) q4.2
set_option maxRecDepth 20000 in
theorem w_X3_measureApart_48 {d : Nat} {p : HS} {k : Int32 → Int32 → Int32 → HS → Option (HS)} (hk : ∀ (x3 : Int32) (x4 : Int32) (x5 : Int32) (σ : HS), k x3 x4 x5 σ = some p → PW RX3 cX3_measureApart 6 (hs_zM (d + 3) none (none, p)) 73 [some (.ref 59), some (.ref 42), some (.ref 56), some (.int x3), some (.int x4), some (.int x5)] [] σ) : ∀ (n : Nat) (x3 : Int32) (x4 : Int32) (x5 : Int32) (σ : HS), f_X3_measureApart_48 k n x3 x4 x5 σ = some p → PW RX3 cX3_measureApart 6 (hs_zM (d + 3) none (none, p)) 48 [some (.ref 59), some (.ref 42), some (.ref 56), some (.int x3), some (.int x4), some (.int x5)] [] σ := by
  intro n
  induction n with
  | zero =>
    intro x3 x4 x5 σ h
    rw [f_X3_measureApart_48] at h
    cases h
  | succ n ih =>
    intro x3 x4 x5 σ h
    rw [f_X3_measureApart_48] at h
    refine pw_iload eX3_measureApart_48 rfl ?_
    refine pw_iconst eX3_measureApart_50 ki_4 ?_
    refine pw_icmp_ge (tgt := 73) eX3_measureApart_51 (by decide) (fun c => ?_) (fun c => ?_)
    · have h := hs_it c h
      exact hk x3 x4 x5 σ h
    · have h := hs_ie c h
      refine pw_aload_n eX3_measureApart_54 rfl ?_
      refine pw_iload_n eX3_measureApart_55 rfl ?_
      refine pw_iconst eX3_measureApart_56 ki_0 ?_
      refine pw_iload eX3_measureApart_57 rfl ?_
      refine pw_iload eX3_measureApart_59 rfl ?_
      obtain ⟨q4, g, h⟩ := hs_bind h
      refine pw_mV4i eX3_measureApart_61 mv_X3_44 ob_42 (s_X0_clashes g) (Nat.le_of_ble_eq_true rfl) ?_
      refine pw_if_eq (tgt := 73) eX3_measureApart_64 (by decide) (fun c => ?_) (fun c => ?_)
      · have h := hs_it c h
        exact hk x3 x4 x5 q4.2 h
      · have h := hs_ie c h
        refine pw_iinc eX3_measureApart_67 (by decide) rfl ki_1 rfl rfl ?_
        refine pw_goto (pc' := 48) eX3_measureApart_70 (by decide) ?_
        exact ih x3 x4 (x5 + 1) q4.2 h
def f_X3_measureApart_73 (rec : Int32 → Int32 → HS → Option (HS)) (x3 : Int32) (x4 : Int32) (x5 : Int32) (σ : HS) : Option (HS) :=
  (f_X8_pair x3 x4 σ).bind fun q9 =>
  (stI q9.2 61 36 q9.1 x5).bind fun σ10 =>
  rec x3 (x4 + 1) σ10
set_option maxRecDepth 20000 in
theorem w_X3_measureApart_73 {d : Nat} {p : HS} {rec : Int32 → Int32 → HS → Option (HS)} (hrec : ∀ (x3 : Int32) (x4 : Int32) (σ : HS), rec x3 x4 σ = some p → PW RX3 cX3_measureApart 6 (hs_zM (d + 3) none (none, p)) 13 [some (.ref 59), some (.ref 42), some (.ref 56), some (.int x3), some (.int x4), none] [] σ) : ∀ (x3 : Int32) (x4 : Int32) (x5 : Int32) (σ : HS), f_X3_measureApart_73 rec x3 x4 x5 σ = some p → PW RX3 cX3_measureApart 6 (hs_zM (d + 3) none (none, p)) 73 [some (.ref 59), some (.ref 42), some (.ref 56), some (.int x3), some (.int x4), some (.int x5)] [] σ := by
  intro x3 x4 x5 σ h
  rw [f_X3_measureApart_73] at h
  refine pw_aload_n eX3_measureApart_73 rfl ?_
  refine pw_getR (r := 61) eX3_measureApart_74 fl_X3_15 ob_59 rfl ?_
  refine pw_iload_n eX3_measureApart_77 rfl ?_
  refine pw_iload eX3_measureApart_78 rfl ?_
  obtain ⟨q9, g, h⟩ := hs_bind h
  refine pw_mN2i eX3_measureApart_80 mn_X3_38 (s_X8_pair g) (Nat.le_of_ble_eq_true rfl) ?_
  refine pw_iload eX3_measureApart_83 rfl ?_
  obtain ⟨σ10, g, h⟩ := hs_bind h
  refine pw_iast' eX3_measureApart_85 ai_61 g ?_
  refine pw_iinc eX3_measureApart_86 (by decide) rfl ki_1 rfl rfl ?_
  refine pw_goto (pc' := 13) eX3_measureApart_89 (by decide) ?_
  exact pw_le (hrec x3 (x4 + 1) σ10 h) ⟨rfl, rfl, rfl, rfl, rfl, trivial⟩
def f_X3_measureApart_13 (k : Int32 → HS → Option (HS)) : Nat → Int32 → Int32 → HS → Option (HS)
  | 0, _, _, _ => none
  | n + 1, x3, x4, σ =>
    if (σ.1 42 7) ≤ x4 then
      k x3 σ
    else
      (f_X8_pair x3 x4 σ).bind fun q1 =>
      (ldI (q1.2.1 56) 36 q1.1).bind fun v2 =>
      if (q1.2.1 42 8) ≤ 1 then
        (f_J9_max_7cf53 v2 1 q1.2).bind fun q3 =>
        f_X3_measureApart_48 (fun e5 e6 e7 σ8 =>
          f_X3_measureApart_73 (f_X3_measureApart_13 k n) e5 e6 e7 σ8) FU x3 x4 q3.1 q3.2
      else
        (f_J9_max_7cf53 v2 0 q1.2).bind fun q11 =>
        f_X3_measureApart_48 (fun e12 e13 e14 σ15 =>
          f_X3_measureApart_73 (f_X3_measureApart_13 k n) e12 e13 e14 σ15) FU x3 x4 q11.1 q11.2
set_option maxRecDepth 20000 in
theorem w_X3_measureApart_13 {d : Nat} {p : HS} {k : Int32 → HS → Option (HS)} (hk : ∀ (x3 : Int32) (σ : HS), k x3 σ = some p → PW RX3 cX3_measureApart 6 (hs_zM (d + 3) none (none, p)) 92 [some (.ref 59), some (.ref 42), some (.ref 56), some (.int x3), none, none] [] σ) : ∀ (n : Nat) (x3 : Int32) (x4 : Int32) (σ : HS), f_X3_measureApart_13 k n x3 x4 σ = some p → PW RX3 cX3_measureApart 6 (hs_zM (d + 3) none (none, p)) 13 [some (.ref 59), some (.ref 42), some (.ref 56), some (.int x3), some (.int x4), none] [] σ := by
  intro n
  induction n with
  | zero =>
    intro x3 x4 σ h
    rw [f_X3_measureApart_13] at h
    cases h
  | succ n ih =>
    intro x3 x4 σ h
    rw [f_X3_measureApart_13] at h
    refine pw_iload eX3_measureApart_13 rfl ?_
    refine pw_aload_n eX3_measureApart_15 rfl ?_
    refine pw_getI eX3_measureApart_16 fl_X3_22 ob_42 rfl ?_
    refine pw_icmp_ge (tgt := 92) eX3_measureApart_19 (by decide) (fun c => ?_) (fun c => ?_)
    · have h := hs_it c h
      exact pw_le (hk x3 σ h) ⟨rfl, rfl, rfl, rfl, trivial⟩
    · have h := hs_ie c h
      refine pw_aload_n eX3_measureApart_22 rfl ?_
      refine pw_iload_n eX3_measureApart_23 rfl ?_
      refine pw_iload eX3_measureApart_24 rfl ?_
      obtain ⟨q1, g, h⟩ := hs_bind h
      refine pw_mN2i eX3_measureApart_26 mn_X3_38 (s_X8_pair g) (Nat.le_of_ble_eq_true rfl) ?_
      obtain ⟨v2, g, h⟩ := hs_bind h
      refine pw_iald' eX3_measureApart_29 ai_56 g ?_
      refine pw_aload_n eX3_measureApart_30 rfl ?_
      refine pw_getI eX3_measureApart_31 fl_X3_41 ob_42 rfl ?_
      refine pw_iconst eX3_measureApart_34 ki_1 ?_
      refine pw_icmp_le (tgt := 42) eX3_measureApart_35 (by decide) (fun c => ?_) (fun c => ?_)
      · have h := hs_it c h
        refine pw_iconst eX3_measureApart_42 ki_1 ?_
        obtain ⟨q3, g, h⟩ := hs_bind h
        refine pw_mS2i eX3_measureApart_43 ms_X3_32 (s_J9_max_7cf53 g) (Nat.le_of_ble_eq_true rfl) ?_
        refine pw_istore eX3_measureApart_46 (by decide) rfl rfl ?_
        refine w_X3_measureApart_48 (fun e5 e6 e7 σ8 h => ?_) FU x3 x4 q3.1 q3.2 h
        exact w_X3_measureApart_73 ih e5 e6 e7 σ8 h
      · have h := hs_ie c h
        refine pw_iconst eX3_measureApart_38 ki_0 ?_
        refine pw_goto (pc' := 43) eX3_measureApart_39 (by decide) ?_
        obtain ⟨q11, g, h⟩ := hs_bind h
        refine pw_mS2i eX3_measureApart_43 ms_X3_32 (s_J9_max_7cf53 g) (Nat.le_of_ble_eq_true rfl) ?_
        refine pw_istore eX3_measureApart_46 (by decide) rfl rfl ?_
        refine w_X3_measureApart_48 (fun e12 e13 e14 σ15 h => ?_) FU x3 x4 q11.1 q11.2 h
        exact w_X3_measureApart_73 ih e12 e13 e14 σ15 h
def f_X3_measureApart_2 : Nat → Int32 → HS → Option (HS)
  | 0, _, _ => none
  | n + 1, x3, σ =>
    if (σ.1 42 7) ≤ x3 then
      some σ
    else
      f_X3_measureApart_13 (fun e16 σ17 =>
        f_X3_measureApart_2 n (e16 + 1) σ17) FU x3 0 σ
set_option maxRecDepth 20000 in
theorem w_X3_measureApart_2 {d : Nat} {p : HS} : ∀ (n : Nat) (x3 : Int32) (σ : HS), f_X3_measureApart_2 n x3 σ = some p → PW RX3 cX3_measureApart 6 (hs_zM (d + 3) none (none, p)) 2 [some (.ref 59), some (.ref 42), some (.ref 56), some (.int x3), none, none] [] σ := by
  intro n
  induction n with
  | zero =>
    intro x3 σ h
    rw [f_X3_measureApart_2] at h
    cases h
  | succ n ih =>
    intro x3 σ h
    rw [f_X3_measureApart_2] at h
    refine pw_iload_n eX3_measureApart_2 rfl ?_
    refine pw_aload_n eX3_measureApart_3 rfl ?_
    refine pw_getI eX3_measureApart_4 fl_X3_22 ob_42 rfl ?_
    refine pw_icmp_ge (tgt := 98) eX3_measureApart_7 (by decide) (fun c => ?_) (fun c => ?_)
    · have h := hs_it c h
      exact pw_vret' eX3_measureApart_98 h
    · have h := hs_ie c h
      refine pw_iconst eX3_measureApart_10 ki_0 ?_
      refine pw_istore eX3_measureApart_11 (by decide) rfl rfl ?_
      refine w_X3_measureApart_13 (fun e16 σ17 h => ?_) FU x3 0 σ h
      refine pw_iinc eX3_measureApart_92 (by decide) rfl ki_1 rfl rfl ?_
      refine pw_goto (pc' := 2) eX3_measureApart_95 (by decide) ?_
      exact ih (e16 + 1) σ17 h
def f_X3_measureApart (σ : HS) : Option (HS) :=
  f_X3_measureApart_2 FU 0 σ
set_option maxRecDepth 20000 in
theorem s_X3_measureApart {d : Nat} {σ : HS} {p : HS} (h : f_X3_measureApart σ = some p) : hs_Spec (d + 3) yX3_measureApart cX3_measureApart 6 none [.ref 59, .ref 42, .ref 56] σ (none, p) := by
  refine hs_spec' (by decide +kernel) rfl (Nat.le_of_ble_eq_true rfl) ?_
  show PW RX3 cX3_measureApart 6 (hs_zM (d + 3) none (none, p)) 0 [some (.ref 59), some (.ref 42), some (.ref 56), none, none, none] [] σ
  rw [f_X3_measureApart] at h
  refine pw_iconst eX3_measureApart_0 ki_0 ?_
  refine pw_istore_n eX3_measureApart_1 rfl (by decide) rfl rfl ?_
  exact w_X3_measureApart_2 FU 0 σ h

def f_X3_turnOfLast_20 : Nat → Int32 → Int32 → Int32 → Int32 → HS → Option (Int32 × HS)
  | 0, _, _, _, _, _ => none
  | n + 1, x3, x4, x5, x6, σ =>
    if (σ.1 42 7) ≤ x6 then
      (ldI (σ.1 46) 6 x4).bind fun v1 =>
      (f_J9_max_7cf53 x5 v1 σ).bind fun q2 =>
      some (q2.1, q2.2)
    else
      if ((x3 >>> (x6 &&& 31)) &&& 1) = 0 then
        f_X3_turnOfLast_20 n x3 x4 x5 (x6 + 1) σ
      else
        (f_X8_pair x4 x6 σ).bind fun q3 =>
        (ldI (q3.2.1 56) 36 q3.1).bind fun v4 =>
        if v4 = (-1) then
          (ldI (q3.2.1 60) 384 ((x3 * 6) + x6)).bind fun v5 =>
          (f_X8_pair x6 x4 q3.2).bind fun q6 =>
          (ldI (q6.2.1 61) 36 q6.1).bind fun v7 =>
          (f_J9_min_7cf53 x5 (v5 + v7) q6.2).bind fun q8 =>
          f_X3_turnOfLast_20 n x3 x4 q8.1 (x6 + 1) q8.2
        else
          some (1000, q3.2)
set_option maxRecDepth 20000 in
theorem w_X3_turnOfLast_20 {d : Nat} {p : Int32 × HS} : ∀ (n : Nat) (x3 : Int32) (x4 : Int32) (x5 : Int32) (x6 : Int32) (σ : HS), f_X3_turnOfLast_20 n x3 x4 x5 x6 σ = some p → PW RX3 cX3_turnOfLast 7 (hs_zM (d + 2) (some .int) (some (.int p.1), p.2)) 20 [some (.ref 59), some (.ref 42), some (.ref 56), some (.int x3), some (.int x4), some (.int x5), some (.int x6)] [] σ := by
  intro n
  induction n with
  | zero =>
    intro x3 x4 x5 x6 σ h
    rw [f_X3_turnOfLast_20] at h
    cases h
  | succ n ih =>
    intro x3 x4 x5 x6 σ h
    rw [f_X3_turnOfLast_20] at h
    refine pw_iload eX3_turnOfLast_20 rfl ?_
    refine pw_aload_n eX3_turnOfLast_22 rfl ?_
    refine pw_getI eX3_turnOfLast_23 fl_X3_22 ob_42 rfl ?_
    refine pw_icmp_ge (tgt := 93) eX3_turnOfLast_26 (by decide) (fun c => ?_) (fun c => ?_)
    · have h := hs_it c h
      refine pw_iload eX3_turnOfLast_93 rfl ?_
      refine pw_aload_n eX3_turnOfLast_95 rfl ?_
      refine pw_getR (r := 46) eX3_turnOfLast_96 fl_X3_58 ob_42 rfl ?_
      refine pw_iload eX3_turnOfLast_99 rfl ?_
      obtain ⟨v1, g, h⟩ := hs_bind h
      refine pw_iald' eX3_turnOfLast_101 ai_46 g ?_
      obtain ⟨q2, g, h⟩ := hs_bind h
      refine pw_mS2i eX3_turnOfLast_102 ms_X3_32 (s_J9_max_7cf53 g) (Nat.le_of_ble_eq_true rfl) ?_
      exact pw_iret' eX3_turnOfLast_105 h
    · have h := hs_ie c h
      refine pw_iload_n eX3_turnOfLast_29 rfl ?_
      refine pw_iload eX3_turnOfLast_30 rfl ?_
      refine pw_ishr eX3_turnOfLast_32 ?_
      refine pw_iconst eX3_turnOfLast_33 ki_1 ?_
      refine pw_iand eX3_turnOfLast_34 ?_
      refine pw_if_eq (tgt := 87) eX3_turnOfLast_35 (by decide) (fun c => ?_) (fun c => ?_)
      · have h := hs_it c h
        refine pw_iinc eX3_turnOfLast_87 (by decide) rfl ki_1 rfl rfl ?_
        refine pw_goto (pc' := 20) eX3_turnOfLast_90 (by decide) ?_
        exact ih x3 x4 x5 (x6 + 1) σ h
      · have h := hs_ie c h
        refine pw_aload_n eX3_turnOfLast_38 rfl ?_
        refine pw_iload eX3_turnOfLast_39 rfl ?_
        refine pw_iload eX3_turnOfLast_41 rfl ?_
        obtain ⟨q3, g, h⟩ := hs_bind h
        refine pw_mN2i eX3_turnOfLast_43 mn_X3_38 (s_X8_pair g) (Nat.le_of_ble_eq_true rfl) ?_
        obtain ⟨v4, g, h⟩ := hs_bind h
        refine pw_iald' eX3_turnOfLast_46 ai_56 g ?_
        refine pw_iconst eX3_turnOfLast_47 ki_m1 ?_
        refine pw_icmp_eq (tgt := 55) eX3_turnOfLast_48 (by decide) (fun c => ?_) (fun c => ?_)
        · have h := hs_it c h
          refine pw_iload eX3_turnOfLast_55 rfl ?_
          refine pw_aload_n eX3_turnOfLast_57 rfl ?_
          refine pw_getR (r := 60) eX3_turnOfLast_58 fl_X3_11 ob_59 rfl ?_
          refine pw_iload_n eX3_turnOfLast_61 rfl ?_
          refine pw_bipush eX3_turnOfLast_62 kb_6 ?_
          refine pw_imul eX3_turnOfLast_64 ?_
          refine pw_iload eX3_turnOfLast_65 rfl ?_
          refine pw_iadd eX3_turnOfLast_67 ?_
          obtain ⟨v5, g, h⟩ := hs_bind h
          refine pw_iald' eX3_turnOfLast_68 ai_60 g ?_
          refine pw_aload_n eX3_turnOfLast_69 rfl ?_
          refine pw_getR (r := 61) eX3_turnOfLast_70 fl_X3_15 ob_59 rfl ?_
          refine pw_iload eX3_turnOfLast_73 rfl ?_
          refine pw_iload eX3_turnOfLast_75 rfl ?_
          obtain ⟨q6, g, h⟩ := hs_bind h
          refine pw_mN2i eX3_turnOfLast_77 mn_X3_38 (s_X8_pair g) (Nat.le_of_ble_eq_true rfl) ?_
          obtain ⟨v7, g, h⟩ := hs_bind h
          refine pw_iald' eX3_turnOfLast_80 ai_61 g ?_
          refine pw_iadd eX3_turnOfLast_81 ?_
          obtain ⟨q8, g, h⟩ := hs_bind h
          refine pw_mS2i eX3_turnOfLast_82 ms_X3_55 (s_J9_min_7cf53 g) (Nat.le_of_ble_eq_true rfl) ?_
          refine pw_istore eX3_turnOfLast_85 (by decide) rfl rfl ?_
          refine pw_iinc eX3_turnOfLast_87 (by decide) rfl ki_1 rfl rfl ?_
          refine pw_goto (pc' := 20) eX3_turnOfLast_90 (by decide) ?_
          exact ih x3 x4 q8.1 (x6 + 1) q8.2 h
        · have h := hs_ie c h
          refine pw_sipush eX3_turnOfLast_51 ks_1000 ?_
          exact pw_iret' eX3_turnOfLast_54 h
def f_X3_turnOfLast (x3 : Int32) (x4 : Int32) (σ : HS) : Option (Int32 × HS) :=
  if x3 = 0 then
    (ldI (σ.1 46) 6 x4).bind fun v9 =>
    some (v9, σ)
  else
    f_X3_turnOfLast_20 FU x3 x4 1000 0 σ
set_option maxRecDepth 20000 in
theorem s_X3_turnOfLast {d : Nat} {x3 : Int32} {x4 : Int32} {σ : HS} {p : Int32 × HS} (h : f_X3_turnOfLast x3 x4 σ = some p) : hs_Spec (d + 2) yX3_turnOfLast cX3_turnOfLast 7 (some .int) [.ref 59, .ref 42, .ref 56, .int x3, .int x4] σ (some (.int p.1), p.2) := by
  refine hs_spec' (by decide +kernel) rfl (Nat.le_of_ble_eq_true rfl) ?_
  show PW RX3 cX3_turnOfLast 7 (hs_zM (d + 2) (some .int) (some (.int p.1), p.2)) 0 [some (.ref 59), some (.ref 42), some (.ref 56), some (.int x3), some (.int x4), none, none] [] σ
  rw [f_X3_turnOfLast] at h
  refine pw_iload_n eX3_turnOfLast_0 rfl ?_
  refine pw_if_ne (tgt := 12) eX3_turnOfLast_1 (by decide) (fun c => ?_) (fun c => ?_)
  · have h := hs_ie c h
    refine pw_sipush eX3_turnOfLast_12 ks_1000 ?_
    refine pw_istore eX3_turnOfLast_15 (by decide) rfl rfl ?_
    refine pw_iconst eX3_turnOfLast_17 ki_0 ?_
    refine pw_istore eX3_turnOfLast_18 (by decide) rfl rfl ?_
    exact w_X3_turnOfLast_20 FU x3 x4 1000 0 σ h
  · have h := hs_it c h
    refine pw_aload_n eX3_turnOfLast_4 rfl ?_
    refine pw_getR (r := 46) eX3_turnOfLast_5 fl_X3_58 ob_42 rfl ?_
    refine pw_iload eX3_turnOfLast_8 rfl ?_
    obtain ⟨v9, g, h⟩ := hs_bind h
    refine pw_iald' eX3_turnOfLast_10 ai_46 g ?_
    exact pw_iret' eX3_turnOfLast_11 h

def f_X3_lengthOfSet_8 : Nat → Int32 → Int32 → Int32 → HS → Option (Int32 × HS)
  | 0, _, _, _, _ => none
  | n + 1, x3, x4, x5, σ =>
    if (σ.1 42 7) ≤ x5 then
      some (x4, σ)
    else
      if ((x3 >>> (x5 &&& 31)) &&& 1) = 0 then
        f_X3_lengthOfSet_8 n x3 x4 (x5 + 1) σ
      else
        (f_X3_turnOfLast (x3 &&& (((1 : Int32) <<< (x5 &&& 31)) ^^^ (-1))) x5 σ).bind fun q1 =>
        (stI q1.2 60 384 ((x3 * 6) + x5) q1.1).bind fun σ2 =>
        (ldI (σ2.1 45) 6 x5).bind fun v3 =>
        (f_J9_min_7cf53 x4 (q1.1 + v3) σ2).bind fun q4 =>
        f_X3_lengthOfSet_8 n x3 q4.1 (x5 + 1) q4.2
set_option maxRecDepth 20000 in
theorem w_X3_lengthOfSet_8 {d : Nat} {p : Int32 × HS} : ∀ (n : Nat) (x3 : Int32) (x4 : Int32) (x5 : Int32) (σ : HS), f_X3_lengthOfSet_8 n x3 x4 x5 σ = some p → PW RX3 cX3_lengthOfSet 7 (hs_zM (d + 3) (some .int) (some (.int p.1), p.2)) 8 [some (.ref 59), some (.ref 42), some (.ref 56), some (.int x3), some (.int x4), some (.int x5), none] [] σ := by
  intro n
  induction n with
  | zero =>
    intro x3 x4 x5 σ h
    rw [f_X3_lengthOfSet_8] at h
    cases h
  | succ n ih =>
    intro x3 x4 x5 σ h
    rw [f_X3_lengthOfSet_8] at h
    refine pw_iload eX3_lengthOfSet_8 rfl ?_
    refine pw_aload_n eX3_lengthOfSet_10 rfl ?_
    refine pw_getI eX3_lengthOfSet_11 fl_X3_22 ob_42 rfl ?_
    refine pw_icmp_ge (tgt := 81) eX3_lengthOfSet_14 (by decide) (fun c => ?_) (fun c => ?_)
    · have h := hs_it c h
      refine pw_iload eX3_lengthOfSet_81 rfl ?_
      exact pw_iret' eX3_lengthOfSet_83 h
    · have h := hs_ie c h
      refine pw_iload_n eX3_lengthOfSet_17 rfl ?_
      refine pw_iload eX3_lengthOfSet_18 rfl ?_
      refine pw_ishr eX3_lengthOfSet_20 ?_
      refine pw_iconst eX3_lengthOfSet_21 ki_1 ?_
      refine pw_iand eX3_lengthOfSet_22 ?_
      refine pw_if_eq (tgt := 75) eX3_lengthOfSet_23 (by decide) (fun c => ?_) (fun c => ?_)
      · have h := hs_it c h
        refine pw_iinc eX3_lengthOfSet_75 (by decide) rfl ki_1 rfl rfl ?_
        refine pw_goto (pc' := 8) eX3_lengthOfSet_78 (by decide) ?_
        exact ih x3 x4 (x5 + 1) σ h
      · have h := hs_ie c h
        refine pw_aload_n eX3_lengthOfSet_26 rfl ?_
        refine pw_aload_n eX3_lengthOfSet_27 rfl ?_
        refine pw_aload_n eX3_lengthOfSet_28 rfl ?_
        refine pw_iload_n eX3_lengthOfSet_29 rfl ?_
        refine pw_iconst eX3_lengthOfSet_30 ki_1 ?_
        refine pw_iload eX3_lengthOfSet_31 rfl ?_
        refine pw_ishl eX3_lengthOfSet_33 ?_
        refine pw_iconst eX3_lengthOfSet_34 ki_m1 ?_
        refine pw_ixor eX3_lengthOfSet_35 ?_
        refine pw_iand eX3_lengthOfSet_36 ?_
        refine pw_iload eX3_lengthOfSet_37 rfl ?_
        obtain ⟨q1, g, h⟩ := hs_bind h
        refine pw_mV4i eX3_lengthOfSet_39 mv_X3_48 ob_59 (s_X3_turnOfLast g) (Nat.le_of_ble_eq_true rfl) ?_
        refine pw_istore eX3_lengthOfSet_42 (by decide) rfl rfl ?_
        refine pw_aload_n eX3_lengthOfSet_44 rfl ?_
        refine pw_getR (r := 60) eX3_lengthOfSet_45 fl_X3_11 ob_59 rfl ?_
        refine pw_iload_n eX3_lengthOfSet_48 rfl ?_
        refine pw_bipush eX3_lengthOfSet_49 kb_6 ?_
        refine pw_imul eX3_lengthOfSet_51 ?_
        refine pw_iload eX3_lengthOfSet_52 rfl ?_
        refine pw_iadd eX3_lengthOfSet_54 ?_
        refine pw_iload eX3_lengthOfSet_55 rfl ?_
        obtain ⟨σ2, g, h⟩ := hs_bind h
        refine pw_iast' eX3_lengthOfSet_57 ai_60 g ?_
        refine pw_iload eX3_lengthOfSet_58 rfl ?_
        refine pw_iload eX3_lengthOfSet_60 rfl ?_
        refine pw_aload_n eX3_lengthOfSet_62 rfl ?_
        refine pw_getR (r := 45) eX3_lengthOfSet_63 fl_X3_52 ob_42 rfl ?_
        refine pw_iload eX3_lengthOfSet_66 rfl ?_
        obtain ⟨v3, g, h⟩ := hs_bind h
        refine pw_iald' eX3_lengthOfSet_68 ai_45 g ?_
        refine pw_iadd eX3_lengthOfSet_69 ?_
        obtain ⟨q4, g, h⟩ := hs_bind h
        refine pw_mS2i eX3_lengthOfSet_70 ms_X3_55 (s_J9_min_7cf53 g) (Nat.le_of_ble_eq_true rfl) ?_
        refine pw_istore eX3_lengthOfSet_73 (by decide) rfl rfl ?_
        refine pw_iinc eX3_lengthOfSet_75 (by decide) rfl ki_1 rfl rfl ?_
        refine pw_goto (pc' := 8) eX3_lengthOfSet_78 (by decide) ?_
        exact pw_le (ih x3 q4.1 (x5 + 1) q4.2 h) ⟨rfl, rfl, rfl, rfl, rfl, rfl, trivial⟩
def f_X3_lengthOfSet (x3 : Int32) (σ : HS) : Option (Int32 × HS) :=
  f_X3_lengthOfSet_8 FU x3 1000 0 σ
set_option maxRecDepth 20000 in
theorem s_X3_lengthOfSet {d : Nat} {x3 : Int32} {σ : HS} {p : Int32 × HS} (h : f_X3_lengthOfSet x3 σ = some p) : hs_Spec (d + 3) yX3_lengthOfSet cX3_lengthOfSet 7 (some .int) [.ref 59, .ref 42, .ref 56, .int x3] σ (some (.int p.1), p.2) := by
  refine hs_spec' (by decide +kernel) rfl (Nat.le_of_ble_eq_true rfl) ?_
  show PW RX3 cX3_lengthOfSet 7 (hs_zM (d + 3) (some .int) (some (.int p.1), p.2)) 0 [some (.ref 59), some (.ref 42), some (.ref 56), some (.int x3), none, none, none] [] σ
  rw [f_X3_lengthOfSet] at h
  refine pw_sipush eX3_lengthOfSet_0 ks_1000 ?_
  refine pw_istore eX3_lengthOfSet_3 (by decide) rfl rfl ?_
  refine pw_iconst eX3_lengthOfSet_5 ki_0 ?_
  refine pw_istore eX3_lengthOfSet_6 (by decide) rfl rfl ?_
  exact w_X3_lengthOfSet_8 FU x3 1000 0 σ h

def f_X3_leastLength_11 : Nat → Int32 → Int32 → HS → Option (Int32 × HS)
  | 0, _, _, _ => none
  | n + 1, x3, x4, σ =>
    if (64 : Int32) ≤ x4 then
      some (x3, σ)
    else
      if ((1 : Int32) <<< ((σ.1 42 7) &&& 31)) ≤ x4 then
        some (x3, σ)
      else
        (f_X3_lengthOfSet x4 σ).bind fun q2 =>
        (f_J9_max_7cf53 x3 q2.1 q2.2).bind fun q3 =>
        f_X3_leastLength_11 n q3.1 (x4 + 1) q3.2
set_option maxRecDepth 20000 in
theorem w_X3_leastLength_11 {d : Nat} {p : Int32 × HS} : ∀ (n : Nat) (x3 : Int32) (x4 : Int32) (σ : HS), f_X3_leastLength_11 n x3 x4 σ = some p → PW RX3 cX3_leastLength 5 (hs_zM (d + 4) (some .int) (some (.int p.1), p.2)) 11 [some (.ref 59), some (.ref 42), some (.ref 56), some (.int x3), some (.int x4)] [] σ := by
  intro n
  induction n with
  | zero =>
    intro x3 x4 σ h
    rw [f_X3_leastLength_11] at h
    cases h
  | succ n ih =>
    intro x3 x4 σ h
    rw [f_X3_leastLength_11] at h
    refine pw_iload eX3_leastLength_11 rfl ?_
    refine pw_bipush eX3_leastLength_13 kb_64 ?_
    refine pw_icmp_ge (tgt := 48) eX3_leastLength_15 (by decide) (fun c => ?_) (fun c => ?_)
    · have h := hs_it c h
      refine pw_iload_n eX3_leastLength_48 rfl ?_
      exact pw_iret' eX3_leastLength_49 h
    · have h := hs_ie c h
      refine pw_iload eX3_leastLength_18 rfl ?_
      refine pw_iconst eX3_leastLength_20 ki_1 ?_
      refine pw_aload_n eX3_leastLength_21 rfl ?_
      refine pw_getI eX3_leastLength_22 fl_X3_22 ob_42 rfl ?_
      refine pw_ishl eX3_leastLength_25 ?_
      refine pw_icmp_ge (tgt := 48) eX3_leastLength_26 (by decide) (fun c => ?_) (fun c => ?_)
      · have h := hs_it c h
        refine pw_iload_n eX3_leastLength_48 rfl ?_
        exact pw_iret' eX3_leastLength_49 h
      · have h := hs_ie c h
        refine pw_iload_n eX3_leastLength_29 rfl ?_
        refine pw_aload_n eX3_leastLength_30 rfl ?_
        refine pw_aload_n eX3_leastLength_31 rfl ?_
        refine pw_aload_n eX3_leastLength_32 rfl ?_
        refine pw_iload eX3_leastLength_33 rfl ?_
        obtain ⟨q2, g, h⟩ := hs_bind h
        refine pw_mV3i eX3_leastLength_35 mv_X3_28 ob_59 (s_X3_lengthOfSet g) (Nat.le_of_ble_eq_true rfl) ?_
        obtain ⟨q3, g, h⟩ := hs_bind h
        refine pw_mS2i eX3_leastLength_38 ms_X3_32 (s_J9_max_7cf53 g) (Nat.le_of_ble_eq_true rfl) ?_
        refine pw_istore_n eX3_leastLength_41 rfl (by decide) rfl rfl ?_
        refine pw_iinc eX3_leastLength_42 (by decide) rfl ki_1 rfl rfl ?_
        refine pw_goto (pc' := 11) eX3_leastLength_45 (by decide) ?_
        exact ih q3.1 (x4 + 1) q3.2 h
def f_X3_leastLength (σ : HS) : Option (Int32 × HS) :=
  (f_X3_measureApart σ).bind fun σ1 =>
  f_X3_leastLength_11 FU 0 1 σ1
set_option maxRecDepth 20000 in
theorem s_X3_leastLength {d : Nat} {σ : HS} {p : Int32 × HS} (h : f_X3_leastLength σ = some p) : hs_Spec (d + 4) yX3_leastLength cX3_leastLength 5 (some .int) [.ref 59, .ref 42, .ref 56] σ (some (.int p.1), p.2) := by
  refine hs_spec' (by decide +kernel) rfl (Nat.le_of_ble_eq_true rfl) ?_
  show PW RX3 cX3_leastLength 5 (hs_zM (d + 4) (some .int) (some (.int p.1), p.2)) 0 [some (.ref 59), some (.ref 42), some (.ref 56), none, none] [] σ
  rw [f_X3_leastLength] at h
  refine pw_aload_n eX3_leastLength_0 rfl ?_
  refine pw_aload_n eX3_leastLength_1 rfl ?_
  refine pw_aload_n eX3_leastLength_2 rfl ?_
  obtain ⟨σ1, g, h⟩ := hs_bind h
  refine pw_mV2v eX3_leastLength_3 mv_X3_18 ob_59 (s_X3_measureApart g) (Nat.le_of_ble_eq_true rfl) ?_
  refine pw_iconst eX3_leastLength_6 ki_0 ?_
  refine pw_istore_n eX3_leastLength_7 rfl (by decide) rfl rfl ?_
  refine pw_iconst eX3_leastLength_8 ki_1 ?_
  refine pw_istore eX3_leastLength_9 (by decide) rfl rfl ?_
  exact w_X3_leastLength_11 FU 0 1 σ1 h

def f_X5_areLike_62 : Nat → Int32 → Int32 → Int32 → HS → Option (Int32 × HS)
  | 0, _, _, _, _ => none
  | n + 1, x1, x2, x3, σ =>
    if (σ.1 42 7) ≤ x3 then
      some (1, σ)
    else
      if x3 = x1 then
        f_X5_areLike_62 n x1 x2 (x3 + 1) σ
      else
        if x3 = x2 then
          f_X5_areLike_62 n x1 x2 (x3 + 1) σ
        else
          (f_X8_pair x1 x3 σ).bind fun q9 =>
          (ldI (q9.2.1 47) 36 q9.1).bind fun v10 =>
          (f_X8_pair x2 x3 q9.2).bind fun q11 =>
          (ldI (q11.2.1 47) 36 q11.1).bind fun v12 =>
          if v10 = v12 then
            (f_X8_pair x3 x1 q11.2).bind fun q13 =>
            (ldI (q13.2.1 47) 36 q13.1).bind fun v14 =>
            (f_X8_pair x3 x2 q13.2).bind fun q15 =>
            (ldI (q15.2.1 47) 36 q15.1).bind fun v16 =>
            if v14 = v16 then
              f_X5_areLike_62 n x1 x2 (x3 + 1) q15.2
            else
              some (0, q15.2)
          else
            some (0, q11.2)
set_option maxRecDepth 20000 in
theorem w_X5_areLike_62 {d : Nat} {p : Int32 × HS} : ∀ (n : Nat) (x1 : Int32) (x2 : Int32) (x3 : Int32) (σ : HS), f_X5_areLike_62 n x1 x2 x3 σ = some p → PW RX5 cX5_areLike 4 (hs_zM (d + 2) (some .boolean) (some (.int p.1), p.2)) 62 [some (.ref 42), some (.int x1), some (.int x2), some (.int x3)] [] σ := by
  intro n
  induction n with
  | zero =>
    intro x1 x2 x3 σ h
    rw [f_X5_areLike_62] at h
    cases h
  | succ n ih =>
    intro x1 x2 x3 σ h
    rw [f_X5_areLike_62] at h
    refine pw_iload_n eX5_areLike_62 rfl ?_
    refine pw_aload_n eX5_areLike_63 rfl ?_
    refine pw_getI eX5_areLike_64 fl_X5_68 ob_42 rfl ?_
    refine pw_icmp_ge (tgt := 134) eX5_areLike_67 (by decide) (fun c => ?_) (fun c => ?_)
    · have h := hs_it c h
      refine pw_iconst eX5_areLike_134 ki_1 ?_
      exact pw_zret' eX5_areLike_135 narrow_b1 h
    · have h := hs_ie c h
      refine pw_iload_n eX5_areLike_70 rfl ?_
      refine pw_iload_n eX5_areLike_71 rfl ?_
      refine pw_icmp_eq (tgt := 128) eX5_areLike_72 (by decide) (fun c => ?_) (fun c => ?_)
      · have h := hs_it c h
        refine pw_iinc eX5_areLike_128 (by decide) rfl ki_1 rfl rfl ?_
        refine pw_goto (pc' := 62) eX5_areLike_131 (by decide) ?_
        exact ih x1 x2 (x3 + 1) σ h
      · have h := hs_ie c h
        refine pw_iload_n eX5_areLike_75 rfl ?_
        refine pw_iload_n eX5_areLike_76 rfl ?_
        refine pw_icmp_eq (tgt := 128) eX5_areLike_77 (by decide) (fun c => ?_) (fun c => ?_)
        · have h := hs_it c h
          refine pw_iinc eX5_areLike_128 (by decide) rfl ki_1 rfl rfl ?_
          refine pw_goto (pc' := 62) eX5_areLike_131 (by decide) ?_
          exact ih x1 x2 (x3 + 1) σ h
        · have h := hs_ie c h
          refine pw_aload_n eX5_areLike_80 rfl ?_
          refine pw_getR (r := 47) eX5_areLike_81 fl_X5_71 ob_42 rfl ?_
          refine pw_iload_n eX5_areLike_84 rfl ?_
          refine pw_iload_n eX5_areLike_85 rfl ?_
          obtain ⟨q9, g, h⟩ := hs_bind h
          refine pw_mN2i eX5_areLike_86 mn_X5_74 (s_X8_pair g) (Nat.le_of_ble_eq_true rfl) ?_
          obtain ⟨v10, g, h⟩ := hs_bind h
          refine pw_iald' eX5_areLike_89 ai_47 g ?_
          refine pw_aload_n eX5_areLike_90 rfl ?_
          refine pw_getR (r := 47) eX5_areLike_91 fl_X5_71 ob_42 rfl ?_
          refine pw_iload_n eX5_areLike_94 rfl ?_
          refine pw_iload_n eX5_areLike_95 rfl ?_
          obtain ⟨q11, g, h⟩ := hs_bind h
          refine pw_mN2i eX5_areLike_96 mn_X5_74 (s_X8_pair g) (Nat.le_of_ble_eq_true rfl) ?_
          obtain ⟨v12, g, h⟩ := hs_bind h
          refine pw_iald' eX5_areLike_99 ai_47 g ?_
          refine pw_icmp_ne (tgt := 126) eX5_areLike_100 (by decide) (fun c => ?_) (fun c => ?_)
          · have h := hs_ie c h
            refine pw_iconst eX5_areLike_126 ki_0 ?_
            exact pw_zret' eX5_areLike_127 narrow_b0 h
          · have h := hs_it c h
            refine pw_aload_n eX5_areLike_103 rfl ?_
            refine pw_getR (r := 47) eX5_areLike_104 fl_X5_71 ob_42 rfl ?_
            refine pw_iload_n eX5_areLike_107 rfl ?_
            refine pw_iload_n eX5_areLike_108 rfl ?_
            obtain ⟨q13, g, h⟩ := hs_bind h
            refine pw_mN2i eX5_areLike_109 mn_X5_74 (s_X8_pair g) (Nat.le_of_ble_eq_true rfl) ?_
            obtain ⟨v14, g, h⟩ := hs_bind h
            refine pw_iald' eX5_areLike_112 ai_47 g ?_
            refine pw_aload_n eX5_areLike_113 rfl ?_
            refine pw_getR (r := 47) eX5_areLike_114 fl_X5_71 ob_42 rfl ?_
            refine pw_iload_n eX5_areLike_117 rfl ?_
            refine pw_iload_n eX5_areLike_118 rfl ?_
            obtain ⟨q15, g, h⟩ := hs_bind h
            refine pw_mN2i eX5_areLike_119 mn_X5_74 (s_X8_pair g) (Nat.le_of_ble_eq_true rfl) ?_
            obtain ⟨v16, g, h⟩ := hs_bind h
            refine pw_iald' eX5_areLike_122 ai_47 g ?_
            refine pw_icmp_eq (tgt := 128) eX5_areLike_123 (by decide) (fun c => ?_) (fun c => ?_)
            · have h := hs_it c h
              refine pw_iinc eX5_areLike_128 (by decide) rfl ki_1 rfl rfl ?_
              refine pw_goto (pc' := 62) eX5_areLike_131 (by decide) ?_
              exact ih x1 x2 (x3 + 1) q15.2 h
            · have h := hs_ie c h
              refine pw_iconst eX5_areLike_126 ki_0 ?_
              exact pw_zret' eX5_areLike_127 narrow_b0 h
def f_X5_areLike (x1 : Int32) (x2 : Int32) (σ : HS) : Option (Int32 × HS) :=
  (ldI (σ.1 43) 6 x1).bind fun v1 =>
  (ldI (σ.1 43) 6 x2).bind fun v2 =>
  if v1 = v2 then
    (ldI (σ.1 44) 6 x1).bind fun v3 =>
    (ldI (σ.1 44) 6 x2).bind fun v4 =>
    if v3 = v4 then
      (f_X8_pair x1 x2 σ).bind fun q5 =>
      (ldI (q5.2.1 47) 36 q5.1).bind fun v6 =>
      if v6 = (-1) then
        (f_X8_pair x2 x1 q5.2).bind fun q7 =>
        (ldI (q7.2.1 47) 36 q7.1).bind fun v8 =>
        if v8 = (-1) then
          f_X5_areLike_62 FU x1 x2 0 q7.2
        else
          some (0, q7.2)
      else
        some (0, q5.2)
    else
      some (0, σ)
  else
    some (0, σ)
set_option maxRecDepth 20000 in
theorem s_X5_areLike {d : Nat} {x1 : Int32} {x2 : Int32} {σ : HS} {p : Int32 × HS} (h : f_X5_areLike x1 x2 σ = some p) : hs_Spec (d + 2) yX5_areLike cX5_areLike 4 (some .boolean) [.ref 42, .int x1, .int x2] σ (some (.int p.1), p.2) := by
  refine hs_spec' (by decide +kernel) rfl (Nat.le_of_ble_eq_true rfl) ?_
  show PW RX5 cX5_areLike 4 (hs_zM (d + 2) (some .boolean) (some (.int p.1), p.2)) 0 [some (.ref 42), some (.int x1), some (.int x2), none] [] σ
  rw [f_X5_areLike] at h
  refine pw_aload_n eX5_areLike_0 rfl ?_
  refine pw_getR (r := 43) eX5_areLike_1 fl_X5_85 ob_42 rfl ?_
  refine pw_iload_n eX5_areLike_4 rfl ?_
  obtain ⟨v1, g, h⟩ := hs_bind h
  refine pw_iald' eX5_areLike_5 ai_43 g ?_
  refine pw_aload_n eX5_areLike_6 rfl ?_
  refine pw_getR (r := 43) eX5_areLike_7 fl_X5_85 ob_42 rfl ?_
  refine pw_iload_n eX5_areLike_10 rfl ?_
  obtain ⟨v2, g, h⟩ := hs_bind h
  refine pw_iald' eX5_areLike_11 ai_43 g ?_
  refine pw_icmp_ne (tgt := 58) eX5_areLike_12 (by decide) (fun c => ?_) (fun c => ?_)
  · have h := hs_ie c h
    refine pw_iconst eX5_areLike_58 ki_0 ?_
    exact pw_zret' eX5_areLike_59 narrow_b0 h
  · have h := hs_it c h
    refine pw_aload_n eX5_areLike_15 rfl ?_
    refine pw_getR (r := 44) eX5_areLike_16 fl_X5_88 ob_42 rfl ?_
    refine pw_iload_n eX5_areLike_19 rfl ?_
    obtain ⟨v3, g, h⟩ := hs_bind h
    refine pw_iald' eX5_areLike_20 ai_44 g ?_
    refine pw_aload_n eX5_areLike_21 rfl ?_
    refine pw_getR (r := 44) eX5_areLike_22 fl_X5_88 ob_42 rfl ?_
    refine pw_iload_n eX5_areLike_25 rfl ?_
    obtain ⟨v4, g, h⟩ := hs_bind h
    refine pw_iald' eX5_areLike_26 ai_44 g ?_
    refine pw_icmp_ne (tgt := 58) eX5_areLike_27 (by decide) (fun c => ?_) (fun c => ?_)
    · have h := hs_ie c h
      refine pw_iconst eX5_areLike_58 ki_0 ?_
      exact pw_zret' eX5_areLike_59 narrow_b0 h
    · have h := hs_it c h
      refine pw_aload_n eX5_areLike_30 rfl ?_
      refine pw_getR (r := 47) eX5_areLike_31 fl_X5_71 ob_42 rfl ?_
      refine pw_iload_n eX5_areLike_34 rfl ?_
      refine pw_iload_n eX5_areLike_35 rfl ?_
      obtain ⟨q5, g, h⟩ := hs_bind h
      refine pw_mN2i eX5_areLike_36 mn_X5_74 (s_X8_pair g) (Nat.le_of_ble_eq_true rfl) ?_
      obtain ⟨v6, g, h⟩ := hs_bind h
      refine pw_iald' eX5_areLike_39 ai_47 g ?_
      refine pw_iconst eX5_areLike_40 ki_m1 ?_
      refine pw_icmp_ne (tgt := 58) eX5_areLike_41 (by decide) (fun c => ?_) (fun c => ?_)
      · have h := hs_ie c h
        refine pw_iconst eX5_areLike_58 ki_0 ?_
        exact pw_zret' eX5_areLike_59 narrow_b0 h
      · have h := hs_it c h
        refine pw_aload_n eX5_areLike_44 rfl ?_
        refine pw_getR (r := 47) eX5_areLike_45 fl_X5_71 ob_42 rfl ?_
        refine pw_iload_n eX5_areLike_48 rfl ?_
        refine pw_iload_n eX5_areLike_49 rfl ?_
        obtain ⟨q7, g, h⟩ := hs_bind h
        refine pw_mN2i eX5_areLike_50 mn_X5_74 (s_X8_pair g) (Nat.le_of_ble_eq_true rfl) ?_
        obtain ⟨v8, g, h⟩ := hs_bind h
        refine pw_iald' eX5_areLike_53 ai_47 g ?_
        refine pw_iconst eX5_areLike_54 ki_m1 ?_
        refine pw_icmp_eq (tgt := 60) eX5_areLike_55 (by decide) (fun c => ?_) (fun c => ?_)
        · have h := hs_it c h
          refine pw_iconst eX5_areLike_60 ki_0 ?_
          refine pw_istore_n eX5_areLike_61 rfl (by decide) rfl rfl ?_
          exact w_X5_areLike_62 FU x1 x2 0 q7.2 h
        · have h := hs_ie c h
          refine pw_iconst eX5_areLike_58 ki_0 ?_
          exact pw_zret' eX5_areLike_59 narrow_b0 h

def f_X5_widenGap (x1 : Int32) (x2 : Int32) (x3 : Int32) (σ : HS) : Option (HS) :=
  (f_X8_pair x1 x2 σ).bind fun q1 =>
  (ldI (q1.2.1 56) 36 q1.1).bind fun v2 =>
  (f_X8_pair x2 x3 q1.2).bind fun q3 =>
  (ldI (q3.2.1 56) 36 q3.1).bind fun v4 =>
  if v2 = (-1) then
    some q3.2
  else
    if v4 = (-1) then
      some q3.2
    else
      (f_X8_pair x1 x3 q3.2).bind fun q5 =>
      (f_X8_pair x1 x3 q5.2).bind fun q6 =>
      (ldI (q6.2.1 56) 36 q6.1).bind fun v7 =>
      (f_J9_max_7cf53 v7 (v2 + v4) q6.2).bind fun q8 =>
      (stI q8.2 56 36 q5.1 q8.1).bind fun σ9 =>
      some σ9
set_option maxRecDepth 20000 in
theorem s_X5_widenGap {d : Nat} {x1 : Int32} {x2 : Int32} {x3 : Int32} {σ : HS} {p : HS} (h : f_X5_widenGap x1 x2 x3 σ = some p) : hs_Spec (d + 2) yX5_widenGap cX5_widenGap 6 none [.ref 54, .int x1, .int x2, .int x3] σ (none, p) := by
  refine hs_spec' (by decide +kernel) rfl (Nat.le_of_ble_eq_true rfl) ?_
  show PW RX5 cX5_widenGap 6 (hs_zM (d + 2) none (none, p)) 0 [some (.ref 54), some (.int x1), some (.int x2), some (.int x3), none, none] [] σ
  rw [f_X5_widenGap] at h
  refine pw_aload_n eX5_widenGap_0 rfl ?_
  refine pw_getR (r := 56) eX5_widenGap_1 fl_X5_15 ob_54 rfl ?_
  refine pw_iload_n eX5_widenGap_4 rfl ?_
  refine pw_iload_n eX5_widenGap_5 rfl ?_
  obtain ⟨q1, g, h⟩ := hs_bind h
  refine pw_mN2i eX5_widenGap_6 mn_X5_74 (s_X8_pair g) (Nat.le_of_ble_eq_true rfl) ?_
  obtain ⟨v2, g, h⟩ := hs_bind h
  refine pw_iald' eX5_widenGap_9 ai_56 g ?_
  refine pw_istore eX5_widenGap_10 (by decide) rfl rfl ?_
  refine pw_aload_n eX5_widenGap_12 rfl ?_
  refine pw_getR (r := 56) eX5_widenGap_13 fl_X5_15 ob_54 rfl ?_
  refine pw_iload_n eX5_widenGap_16 rfl ?_
  refine pw_iload_n eX5_widenGap_17 rfl ?_
  obtain ⟨q3, g, h⟩ := hs_bind h
  refine pw_mN2i eX5_widenGap_18 mn_X5_74 (s_X8_pair g) (Nat.le_of_ble_eq_true rfl) ?_
  obtain ⟨v4, g, h⟩ := hs_bind h
  refine pw_iald' eX5_widenGap_21 ai_56 g ?_
  refine pw_istore eX5_widenGap_22 (by decide) rfl rfl ?_
  refine pw_iload eX5_widenGap_24 rfl ?_
  refine pw_iconst eX5_widenGap_26 ki_m1 ?_
  refine pw_icmp_eq (tgt := 64) eX5_widenGap_27 (by decide) (fun c => ?_) (fun c => ?_)
  · have h := hs_it c h
    exact pw_vret' eX5_widenGap_64 h
  · have h := hs_ie c h
    refine pw_iload eX5_widenGap_30 rfl ?_
    refine pw_iconst eX5_widenGap_32 ki_m1 ?_
    refine pw_icmp_eq (tgt := 64) eX5_widenGap_33 (by decide) (fun c => ?_) (fun c => ?_)
    · have h := hs_it c h
      exact pw_vret' eX5_widenGap_64 h
    · have h := hs_ie c h
      refine pw_aload_n eX5_widenGap_36 rfl ?_
      refine pw_getR (r := 56) eX5_widenGap_37 fl_X5_15 ob_54 rfl ?_
      refine pw_iload_n eX5_widenGap_40 rfl ?_
      refine pw_iload_n eX5_widenGap_41 rfl ?_
      obtain ⟨q5, g, h⟩ := hs_bind h
      refine pw_mN2i eX5_widenGap_42 mn_X5_74 (s_X8_pair g) (Nat.le_of_ble_eq_true rfl) ?_
      refine pw_aload_n eX5_widenGap_45 rfl ?_
      refine pw_getR (r := 56) eX5_widenGap_46 fl_X5_15 ob_54 rfl ?_
      refine pw_iload_n eX5_widenGap_49 rfl ?_
      refine pw_iload_n eX5_widenGap_50 rfl ?_
      obtain ⟨q6, g, h⟩ := hs_bind h
      refine pw_mN2i eX5_widenGap_51 mn_X5_74 (s_X8_pair g) (Nat.le_of_ble_eq_true rfl) ?_
      obtain ⟨v7, g, h⟩ := hs_bind h
      refine pw_iald' eX5_widenGap_54 ai_56 g ?_
      refine pw_iload eX5_widenGap_55 rfl ?_
      refine pw_iload eX5_widenGap_57 rfl ?_
      refine pw_iadd eX5_widenGap_59 ?_
      obtain ⟨q8, g, h⟩ := hs_bind h
      refine pw_mS2i eX5_widenGap_60 ms_X5_48 (s_J9_max_7cf53 g) (Nat.le_of_ble_eq_true rfl) ?_
      obtain ⟨σ9, g, h⟩ := hs_bind h
      refine pw_iast' eX5_widenGap_63 ai_56 g ?_
      exact pw_vret' eX5_widenGap_64 h

def f_X5_measureGaps_97 (k : Int32 → Int32 → HS → Option (HS)) : Nat → Int32 → Int32 → Int32 → HS → Option (HS)
  | 0, _, _, _, _ => none
  | n + 1, x2, x3, x4, σ =>
    if (σ.1 42 7) ≤ x4 then
      k x2 x3 σ
    else
      (f_X5_widenGap x3 x2 x4 σ).bind fun σ1 =>
      f_X5_measureGaps_97 k n x2 x3 (x4 + 1) σ1
set_option maxRecDepth 20000 in
theorem w_X5_measureGaps_97 {d : Nat} {p : HS} {k : Int32 → Int32 → HS → Option (HS)} (hk : ∀ (x2 : Int32) (x3 : Int32) (σ : HS), k x2 x3 σ = some p → PW RX5 cX5_measureGaps 5 (hs_zM (d + 3) none (none, p)) 120 [some (.ref 54), some (.ref 42), some (.int x2), some (.int x3), none] [] σ) : ∀ (n : Nat) (x2 : Int32) (x3 : Int32) (x4 : Int32) (σ : HS), f_X5_measureGaps_97 k n x2 x3 x4 σ = some p → PW RX5 cX5_measureGaps 5 (hs_zM (d + 3) none (none, p)) 97 [some (.ref 54), some (.ref 42), some (.int x2), some (.int x3), some (.int x4)] [] σ := by
  intro n
  induction n with
  | zero =>
    intro x2 x3 x4 σ h
    rw [f_X5_measureGaps_97] at h
    cases h
  | succ n ih =>
    intro x2 x3 x4 σ h
    rw [f_X5_measureGaps_97] at h
    refine pw_iload eX5_measureGaps_97 rfl ?_
    refine pw_aload_n eX5_measureGaps_99 rfl ?_
    refine pw_getI eX5_measureGaps_100 fl_X5_68 ob_42 rfl ?_
    refine pw_icmp_ge (tgt := 120) eX5_measureGaps_103 (by decide) (fun c => ?_) (fun c => ?_)
    · have h := hs_it c h
      exact pw_le (hk x2 x3 σ h) ⟨rfl, rfl, rfl, rfl, trivial⟩
    · have h := hs_ie c h
      refine pw_aload_n eX5_measureGaps_106 rfl ?_
      refine pw_iload_n eX5_measureGaps_107 rfl ?_
      refine pw_iload_n eX5_measureGaps_108 rfl ?_
      refine pw_iload eX5_measureGaps_109 rfl ?_
      obtain ⟨σ1, g, h⟩ := hs_bind h
      refine pw_mV3v eX5_measureGaps_111 mv_X5_81 ob_54 (s_X5_widenGap g) (Nat.le_of_ble_eq_true rfl) ?_
      refine pw_iinc eX5_measureGaps_114 (by decide) rfl ki_1 rfl rfl ?_
      refine pw_goto (pc' := 97) eX5_measureGaps_117 (by decide) ?_
      exact ih x2 x3 (x4 + 1) σ1 h
def f_X5_measureGaps_86 (k : Int32 → HS → Option (HS)) : Nat → Int32 → Int32 → HS → Option (HS)
  | 0, _, _, _ => none
  | n + 1, x2, x3, σ =>
    if (σ.1 42 7) ≤ x3 then
      k x2 σ
    else
      f_X5_measureGaps_97 (fun e2 e3 σ4 =>
        f_X5_measureGaps_86 k n e2 (e3 + 1) σ4) FU x2 x3 0 σ
set_option maxRecDepth 20000 in
theorem w_X5_measureGaps_86 {d : Nat} {p : HS} {k : Int32 → HS → Option (HS)} (hk : ∀ (x2 : Int32) (σ : HS), k x2 σ = some p → PW RX5 cX5_measureGaps 5 (hs_zM (d + 3) none (none, p)) 126 [some (.ref 54), some (.ref 42), some (.int x2), none, none] [] σ) : ∀ (n : Nat) (x2 : Int32) (x3 : Int32) (σ : HS), f_X5_measureGaps_86 k n x2 x3 σ = some p → PW RX5 cX5_measureGaps 5 (hs_zM (d + 3) none (none, p)) 86 [some (.ref 54), some (.ref 42), some (.int x2), some (.int x3), none] [] σ := by
  intro n
  induction n with
  | zero =>
    intro x2 x3 σ h
    rw [f_X5_measureGaps_86] at h
    cases h
  | succ n ih =>
    intro x2 x3 σ h
    rw [f_X5_measureGaps_86] at h
    refine pw_iload_n eX5_measureGaps_86 rfl ?_
    refine pw_aload_n eX5_measureGaps_87 rfl ?_
    refine pw_getI eX5_measureGaps_88 fl_X5_68 ob_42 rfl ?_
    refine pw_icmp_ge (tgt := 126) eX5_measureGaps_91 (by decide) (fun c => ?_) (fun c => ?_)
    · have h := hs_it c h
      exact pw_le (hk x2 σ h) ⟨rfl, rfl, rfl, trivial⟩
    · have h := hs_ie c h
      refine pw_iconst eX5_measureGaps_94 ki_0 ?_
      refine pw_istore eX5_measureGaps_95 (by decide) rfl rfl ?_
      refine w_X5_measureGaps_97 (fun e2 e3 σ4 h => ?_) FU x2 x3 0 σ h
      refine pw_iinc eX5_measureGaps_120 (by decide) rfl ki_1 rfl rfl ?_
      refine pw_goto (pc' := 86) eX5_measureGaps_123 (by decide) ?_
      exact ih e2 (e3 + 1) σ4 h
def f_X5_measureGaps_76 : Nat → Int32 → HS → Option (HS)
  | 0, _, _ => none
  | n + 1, x2, σ =>
    if (σ.1 42 7) ≤ x2 then
      some σ
    else
      f_X5_measureGaps_86 (fun e5 σ6 =>
        f_X5_measureGaps_76 n (e5 + 1) σ6) FU x2 0 σ
set_option maxRecDepth 20000 in
theorem w_X5_measureGaps_76 {d : Nat} {p : HS} : ∀ (n : Nat) (x2 : Int32) (σ : HS), f_X5_measureGaps_76 n x2 σ = some p → PW RX5 cX5_measureGaps 5 (hs_zM (d + 3) none (none, p)) 76 [some (.ref 54), some (.ref 42), some (.int x2), none, none] [] σ := by
  intro n
  induction n with
  | zero =>
    intro x2 σ h
    rw [f_X5_measureGaps_76] at h
    cases h
  | succ n ih =>
    intro x2 σ h
    rw [f_X5_measureGaps_76] at h
    refine pw_iload_n eX5_measureGaps_76 rfl ?_
    refine pw_aload_n eX5_measureGaps_77 rfl ?_
    refine pw_getI eX5_measureGaps_78 fl_X5_68 ob_42 rfl ?_
    refine pw_icmp_ge (tgt := 132) eX5_measureGaps_81 (by decide) (fun c => ?_) (fun c => ?_)
    · have h := hs_it c h
      exact pw_vret' eX5_measureGaps_132 h
    · have h := hs_ie c h
      refine pw_iconst eX5_measureGaps_84 ki_0 ?_
      refine pw_istore_n eX5_measureGaps_85 rfl (by decide) rfl rfl ?_
      refine w_X5_measureGaps_86 (fun e5 σ6 h => ?_) FU x2 0 σ h
      refine pw_iinc eX5_measureGaps_126 (by decide) rfl ki_1 rfl rfl ?_
      refine pw_goto (pc' := 76) eX5_measureGaps_129 (by decide) ?_
      exact ih (e5 + 1) σ6 h
def f_X5_measureGaps_12 (k : Int32 → HS → Option (HS)) : Nat → Int32 → Int32 → HS → Option (HS)
  | 0, _, _, _ => none
  | n + 1, x2, x3, σ =>
    if (σ.1 42 7) ≤ x3 then
      k x2 σ
    else
      (f_X8_pair x3 x2 σ).bind fun q7 =>
      (ldI (q7.2.1 47) 36 q7.1).bind fun v8 =>
      (f_X8_pair x2 x3 q7.2).bind fun q9 =>
      if x3 ≤ x2 then
        (stI q9.2 56 36 q9.1 v8).bind fun σ10 =>
        f_X5_measureGaps_12 k n x2 (x3 + 1) σ10
      else
        (f_X5_areLike x2 x3 q9.2).bind fun q11 =>
        if q11.1 = 0 then
          (stI q11.2 56 36 q9.1 v8).bind fun σ12 =>
          f_X5_measureGaps_12 k n x2 (x3 + 1) σ12
        else
          (stI q11.2 56 36 q9.1 0).bind fun σ13 =>
          f_X5_measureGaps_12 k n x2 (x3 + 1) σ13
set_option maxRecDepth 20000 in
theorem w_X5_measureGaps_12 {d : Nat} {p : HS} {k : Int32 → HS → Option (HS)} (hk : ∀ (x2 : Int32) (σ : HS), k x2 σ = some p → PW RX5 cX5_measureGaps 5 (hs_zM (d + 3) none (none, p)) 68 [some (.ref 54), some (.ref 42), some (.int x2), none, none] [] σ) : ∀ (n : Nat) (x2 : Int32) (x3 : Int32) (σ : HS), f_X5_measureGaps_12 k n x2 x3 σ = some p → PW RX5 cX5_measureGaps 5 (hs_zM (d + 3) none (none, p)) 12 [some (.ref 54), some (.ref 42), some (.int x2), some (.int x3), none] [] σ := by
  intro n
  induction n with
  | zero =>
    intro x2 x3 σ h
    rw [f_X5_measureGaps_12] at h
    cases h
  | succ n ih =>
    intro x2 x3 σ h
    rw [f_X5_measureGaps_12] at h
    refine pw_iload_n eX5_measureGaps_12 rfl ?_
    refine pw_aload_n eX5_measureGaps_13 rfl ?_
    refine pw_getI eX5_measureGaps_14 fl_X5_68 ob_42 rfl ?_
    refine pw_icmp_ge (tgt := 68) eX5_measureGaps_17 (by decide) (fun c => ?_) (fun c => ?_)
    · have h := hs_it c h
      exact pw_le (hk x2 σ h) ⟨rfl, rfl, rfl, trivial⟩
    · have h := hs_ie c h
      refine pw_aload_n eX5_measureGaps_20 rfl ?_
      refine pw_getR (r := 47) eX5_measureGaps_21 fl_X5_71 ob_42 rfl ?_
      refine pw_iload_n eX5_measureGaps_24 rfl ?_
      refine pw_iload_n eX5_measureGaps_25 rfl ?_
      obtain ⟨q7, g, h⟩ := hs_bind h
      refine pw_mN2i eX5_measureGaps_26 mn_X5_74 (s_X8_pair g) (Nat.le_of_ble_eq_true rfl) ?_
      obtain ⟨v8, g, h⟩ := hs_bind h
      refine pw_iald' eX5_measureGaps_29 ai_47 g ?_
      refine pw_istore eX5_measureGaps_30 (by decide) rfl rfl ?_
      refine pw_aload_n eX5_measureGaps_32 rfl ?_
      refine pw_getR (r := 56) eX5_measureGaps_33 fl_X5_15 ob_54 rfl ?_
      refine pw_iload_n eX5_measureGaps_36 rfl ?_
      refine pw_iload_n eX5_measureGaps_37 rfl ?_
      obtain ⟨q9, g, h⟩ := hs_bind h
      refine pw_mN2i eX5_measureGaps_38 mn_X5_74 (s_X8_pair g) (Nat.le_of_ble_eq_true rfl) ?_
      refine pw_iload_n eX5_measureGaps_41 rfl ?_
      refine pw_iload_n eX5_measureGaps_42 rfl ?_
      refine pw_icmp_ge (tgt := 59) eX5_measureGaps_43 (by decide) (fun c => ?_) (fun c => ?_)
      · have h := hs_it c h
        refine pw_iload eX5_measureGaps_59 rfl ?_
        obtain ⟨σ10, g, h⟩ := hs_bind h
        refine pw_iast' eX5_measureGaps_61 ai_56 g ?_
        refine pw_iinc eX5_measureGaps_62 (by decide) rfl ki_1 rfl rfl ?_
        refine pw_goto (pc' := 12) eX5_measureGaps_65 (by decide) ?_
        exact pw_le (ih x2 (x3 + 1) σ10 h) ⟨rfl, rfl, rfl, rfl, trivial⟩
      · have h := hs_ie c h
        refine pw_aload_n eX5_measureGaps_46 rfl ?_
        refine pw_iload_n eX5_measureGaps_47 rfl ?_
        refine pw_iload_n eX5_measureGaps_48 rfl ?_
        obtain ⟨q11, g, h⟩ := hs_bind h
        refine pw_mS3i eX5_measureGaps_49 ms_X5_77 (s_X5_areLike g) (Nat.le_of_ble_eq_true rfl) ?_
        refine pw_if_eq (tgt := 59) eX5_measureGaps_52 (by decide) (fun c => ?_) (fun c => ?_)
        · have h := hs_it c h
          refine pw_iload eX5_measureGaps_59 rfl ?_
          obtain ⟨σ12, g, h⟩ := hs_bind h
          refine pw_iast' eX5_measureGaps_61 ai_56 g ?_
          refine pw_iinc eX5_measureGaps_62 (by decide) rfl ki_1 rfl rfl ?_
          refine pw_goto (pc' := 12) eX5_measureGaps_65 (by decide) ?_
          exact pw_le (ih x2 (x3 + 1) σ12 h) ⟨rfl, rfl, rfl, rfl, trivial⟩
        · have h := hs_ie c h
          refine pw_iconst eX5_measureGaps_55 ki_0 ?_
          refine pw_goto (pc' := 61) eX5_measureGaps_56 (by decide) ?_
          obtain ⟨σ13, g, h⟩ := hs_bind h
          refine pw_iast' eX5_measureGaps_61 ai_56 g ?_
          refine pw_iinc eX5_measureGaps_62 (by decide) rfl ki_1 rfl rfl ?_
          refine pw_goto (pc' := 12) eX5_measureGaps_65 (by decide) ?_
          exact pw_le (ih x2 (x3 + 1) σ13 h) ⟨rfl, rfl, rfl, rfl, trivial⟩
def f_X5_measureGaps_2 : Nat → Int32 → HS → Option (HS)
  | 0, _, _ => none
  | n + 1, x2, σ =>
    if (σ.1 42 7) ≤ x2 then
      f_X5_measureGaps_76 FU 0 σ
    else
      f_X5_measureGaps_12 (fun e14 σ15 =>
        f_X5_measureGaps_2 n (e14 + 1) σ15) FU x2 0 σ
set_option maxRecDepth 20000 in
theorem w_X5_measureGaps_2 {d : Nat} {p : HS} : ∀ (n : Nat) (x2 : Int32) (σ : HS), f_X5_measureGaps_2 n x2 σ = some p → PW RX5 cX5_measureGaps 5 (hs_zM (d + 3) none (none, p)) 2 [some (.ref 54), some (.ref 42), some (.int x2), none, none] [] σ := by
  intro n
  induction n with
  | zero =>
    intro x2 σ h
    rw [f_X5_measureGaps_2] at h
    cases h
  | succ n ih =>
    intro x2 σ h
    rw [f_X5_measureGaps_2] at h
    refine pw_iload_n eX5_measureGaps_2 rfl ?_
    refine pw_aload_n eX5_measureGaps_3 rfl ?_
    refine pw_getI eX5_measureGaps_4 fl_X5_68 ob_42 rfl ?_
    refine pw_icmp_ge (tgt := 74) eX5_measureGaps_7 (by decide) (fun c => ?_) (fun c => ?_)
    · have h := hs_it c h
      refine pw_iconst eX5_measureGaps_74 ki_0 ?_
      refine pw_istore_n eX5_measureGaps_75 rfl (by decide) rfl rfl ?_
      exact w_X5_measureGaps_76 FU 0 σ h
    · have h := hs_ie c h
      refine pw_iconst eX5_measureGaps_10 ki_0 ?_
      refine pw_istore_n eX5_measureGaps_11 rfl (by decide) rfl rfl ?_
      refine w_X5_measureGaps_12 (fun e14 σ15 h => ?_) FU x2 0 σ h
      refine pw_iinc eX5_measureGaps_68 (by decide) rfl ki_1 rfl rfl ?_
      refine pw_goto (pc' := 2) eX5_measureGaps_71 (by decide) ?_
      exact ih (e14 + 1) σ15 h
def f_X5_measureGaps (σ : HS) : Option (HS) :=
  f_X5_measureGaps_2 FU 0 σ
set_option maxRecDepth 20000 in
theorem s_X5_measureGaps {d : Nat} {σ : HS} {p : HS} (h : f_X5_measureGaps σ = some p) : hs_Spec (d + 3) yX5_measureGaps cX5_measureGaps 5 none [.ref 54, .ref 42] σ (none, p) := by
  refine hs_spec' (by decide +kernel) rfl (Nat.le_of_ble_eq_true rfl) ?_
  show PW RX5 cX5_measureGaps 5 (hs_zM (d + 3) none (none, p)) 0 [some (.ref 54), some (.ref 42), none, none, none] [] σ
  rw [f_X5_measureGaps] at h
  refine pw_iconst eX5_measureGaps_0 ki_0 ?_
  refine pw_istore_n eX5_measureGaps_1 rfl (by decide) rfl rfl ?_
  exact w_X5_measureGaps_2 FU 0 σ h

def f_X5_from (x0 : Int32) (σ : HS) : Option (Int32 × HS) :=
  if x0 ≤ 25 then
    if (0 : Int32) < x0 then
      some (((67108863 : Int32) &&& ((-1 : Int32) <<< (x0 &&& 31))), σ)
    else
      some (67108863, σ)
  else
    some (0, σ)
set_option maxRecDepth 20000 in
theorem s_X5_from {d : Nat} {x0 : Int32} {σ : HS} {p : Int32 × HS} (h : f_X5_from x0 σ = some p) : hs_Spec (d + 1) yX5_from cX5_from 1 (some .int) [.int x0] σ (some (.int p.1), p.2) := by
  refine hs_spec' (by decide +kernel) rfl (Nat.le_of_ble_eq_true rfl) ?_
  show PW RX5 cX5_from 1 (hs_zM (d + 1) (some .int) (some (.int p.1), p.2)) 0 [some (.int x0)] [] σ
  rw [f_X5_from] at h
  refine pw_iload_n eX5_from_0 rfl ?_
  refine pw_bipush eX5_from_1 kb_25 ?_
  refine pw_icmp_le (tgt := 8) eX5_from_3 (by decide) (fun c => ?_) (fun c => ?_)
  · have h := hs_it c h
    refine pw_iload_n eX5_from_8 rfl ?_
    refine pw_if_gt (tgt := 17) eX5_from_9 (by decide) (fun c => ?_) (fun c => ?_)
    · have h := hs_it c h
      refine pw_ldc eX5_from_17 kc_X5_142 ?_
      refine pw_iconst eX5_from_19 ki_m1 ?_
      refine pw_iload_n eX5_from_20 rfl ?_
      refine pw_ishl eX5_from_21 ?_
      refine pw_iand eX5_from_22 ?_
      exact pw_iret' eX5_from_23 h
    · have h := hs_ie c h
      refine pw_ldc eX5_from_12 kc_X5_142 ?_
      refine pw_goto (pc' := 23) eX5_from_14 (by decide) ?_
      exact pw_iret' eX5_from_23 h
  · have h := hs_ie c h
    refine pw_iconst eX5_from_6 ki_0 ?_
    exact pw_iret' eX5_from_7 h

def f_X5_upTo (x0 : Int32) (σ : HS) : Option (Int32 × HS) :=
  if (0 : Int32) ≤ x0 then
    if x0 < 25 then
      some ((((1 : Int32) <<< ((x0 + 1) &&& 31)) - 1), σ)
    else
      some (67108863, σ)
  else
    some (0, σ)
set_option maxRecDepth 20000 in
theorem s_X5_upTo {d : Nat} {x0 : Int32} {σ : HS} {p : Int32 × HS} (h : f_X5_upTo x0 σ = some p) : hs_Spec (d + 1) yX5_upTo cX5_upTo 1 (some .int) [.int x0] σ (some (.int p.1), p.2) := by
  refine hs_spec' (by decide +kernel) rfl (Nat.le_of_ble_eq_true rfl) ?_
  show PW RX5 cX5_upTo 1 (hs_zM (d + 1) (some .int) (some (.int p.1), p.2)) 0 [some (.int x0)] [] σ
  rw [f_X5_upTo] at h
  refine pw_iload_n eX5_upTo_0 rfl ?_
  refine pw_if_ge (tgt := 6) eX5_upTo_1 (by decide) (fun c => ?_) (fun c => ?_)
  · have h := hs_it c h
    refine pw_iload_n eX5_upTo_6 rfl ?_
    refine pw_bipush eX5_upTo_7 kb_25 ?_
    refine pw_icmp_lt (tgt := 17) eX5_upTo_9 (by decide) (fun c => ?_) (fun c => ?_)
    · have h := hs_it c h
      refine pw_iconst eX5_upTo_17 ki_1 ?_
      refine pw_iload_n eX5_upTo_18 rfl ?_
      refine pw_iconst eX5_upTo_19 ki_1 ?_
      refine pw_iadd eX5_upTo_20 ?_
      refine pw_ishl eX5_upTo_21 ?_
      refine pw_iconst eX5_upTo_22 ki_1 ?_
      refine pw_isub eX5_upTo_23 ?_
      exact pw_iret' eX5_upTo_24 h
    · have h := hs_ie c h
      refine pw_ldc eX5_upTo_12 kc_X5_142 ?_
      refine pw_goto (pc' := 24) eX5_upTo_14 (by decide) ?_
      exact pw_iret' eX5_upTo_24 h
  · have h := hs_ie c h
    refine pw_iconst eX5_upTo_4 ki_0 ?_
    exact pw_iret' eX5_upTo_5 h

def f_X5_openAll_2 : Nat → Int32 → HS → Option (Int32 × HS)
  | 0, _, _ => none
  | n + 1, x2, σ =>
    if (σ.1 42 7) ≤ x2 then
      some (1, σ)
    else
      (ldI (σ.1 46) 6 x2).bind fun v1 =>
      (f_X5_from v1 σ).bind fun q2 =>
      (ldI (q2.2.1 45) 6 x2).bind fun v3 =>
      (f_X5_upTo ((q2.2.1 54 5) - v3) q2.2).bind fun q4 =>
      (stI q4.2 55 42 x2 (q2.1 &&& q4.1)).bind fun σ5 =>
      (ldI (σ5.1 55) 42 x2).bind fun v6 =>
      if v6 = 0 then
        some (0, σ5)
      else
        f_X5_openAll_2 n (x2 + 1) σ5
set_option maxRecDepth 20000 in
theorem w_X5_openAll_2 {d : Nat} {p : Int32 × HS} : ∀ (n : Nat) (x2 : Int32) (σ : HS), f_X5_openAll_2 n x2 σ = some p → PW RX5 cX5_openAll 3 (hs_zM (d + 2) (some .boolean) (some (.int p.1), p.2)) 2 [some (.ref 54), some (.ref 42), some (.int x2)] [] σ := by
  intro n
  induction n with
  | zero =>
    intro x2 σ h
    rw [f_X5_openAll_2] at h
    cases h
  | succ n ih =>
    intro x2 σ h
    rw [f_X5_openAll_2] at h
    refine pw_iload_n eX5_openAll_2 rfl ?_
    refine pw_aload_n eX5_openAll_3 rfl ?_
    refine pw_getI eX5_openAll_4 fl_X5_68 ob_42 rfl ?_
    refine pw_icmp_ge (tgt := 57) eX5_openAll_7 (by decide) (fun c => ?_) (fun c => ?_)
    · have h := hs_it c h
      refine pw_iconst eX5_openAll_57 ki_1 ?_
      exact pw_zret' eX5_openAll_58 narrow_b1 h
    · have h := hs_ie c h
      refine pw_aload_n eX5_openAll_10 rfl ?_
      refine pw_getR (r := 55) eX5_openAll_11 fl_X5_9 ob_54 rfl ?_
      refine pw_iload_n eX5_openAll_14 rfl ?_
      refine pw_aload_n eX5_openAll_15 rfl ?_
      refine pw_getR (r := 46) eX5_openAll_16 fl_X5_97 ob_42 rfl ?_
      refine pw_iload_n eX5_openAll_19 rfl ?_
      obtain ⟨v1, g, h⟩ := hs_bind h
      refine pw_iald' eX5_openAll_20 ai_46 g ?_
      obtain ⟨q2, g, h⟩ := hs_bind h
      refine pw_mS1i eX5_openAll_21 ms_X5_100 (s_X5_from g) (Nat.le_of_ble_eq_true rfl) ?_
      refine pw_aload_n eX5_openAll_24 rfl ?_
      refine pw_getI eX5_openAll_25 fl_X5_54 ob_54 rfl ?_
      refine pw_aload_n eX5_openAll_28 rfl ?_
      refine pw_getR (r := 45) eX5_openAll_29 fl_X5_104 ob_42 rfl ?_
      refine pw_iload_n eX5_openAll_32 rfl ?_
      obtain ⟨v3, g, h⟩ := hs_bind h
      refine pw_iald' eX5_openAll_33 ai_45 g ?_
      refine pw_isub eX5_openAll_34 ?_
      obtain ⟨q4, g, h⟩ := hs_bind h
      refine pw_mS1i eX5_openAll_35 ms_X5_107 (s_X5_upTo g) (Nat.le_of_ble_eq_true rfl) ?_
      refine pw_iand eX5_openAll_38 ?_
      obtain ⟨σ5, g, h⟩ := hs_bind h
      refine pw_iast' eX5_openAll_39 ai_55 g ?_
      refine pw_aload_n eX5_openAll_40 rfl ?_
      refine pw_getR (r := 55) eX5_openAll_41 fl_X5_9 ob_54 rfl ?_
      refine pw_iload_n eX5_openAll_44 rfl ?_
      obtain ⟨v6, g, h⟩ := hs_bind h
      refine pw_iald' eX5_openAll_45 ai_55 g ?_
      refine pw_if_ne (tgt := 51) eX5_openAll_46 (by decide) (fun c => ?_) (fun c => ?_)
      · have h := hs_ie c h
        refine pw_iinc eX5_openAll_51 (by decide) rfl ki_1 rfl rfl ?_
        refine pw_goto (pc' := 2) eX5_openAll_54 (by decide) ?_
        exact ih (x2 + 1) σ5 h
      · have h := hs_it c h
        refine pw_iconst eX5_openAll_49 ki_0 ?_
        exact pw_zret' eX5_openAll_50 narrow_b0 h
def f_X5_openAll (σ : HS) : Option (Int32 × HS) :=
  f_X5_openAll_2 FU 0 σ
set_option maxRecDepth 20000 in
theorem s_X5_openAll {d : Nat} {σ : HS} {p : Int32 × HS} (h : f_X5_openAll σ = some p) : hs_Spec (d + 2) yX5_openAll cX5_openAll 3 (some .boolean) [.ref 54, .ref 42] σ (some (.int p.1), p.2) := by
  refine hs_spec' (by decide +kernel) rfl (Nat.le_of_ble_eq_true rfl) ?_
  show PW RX5 cX5_openAll 3 (hs_zM (d + 2) (some .boolean) (some (.int p.1), p.2)) 0 [some (.ref 54), some (.ref 42), none] [] σ
  rw [f_X5_openAll] at h
  refine pw_iconst eX5_openAll_0 ki_0 ?_
  refine pw_istore_n eX5_openAll_1 rfl (by decide) rfl rfl ?_
  exact w_X5_openAll_2 FU 0 σ h

def f_X5_tightest_9 : Nat → Int32 → Int32 → Int32 → Int32 → Int32 → HS → Option (Int32 × HS)
  | 0, _, _, _, _, _, _ => none
  | n + 1, x2, x3, x4, x5, x6, σ =>
    if (σ.1 42 7) ≤ x6 then
      some (x4, σ)
    else
      if ((x3 >>> (x6 &&& 31)) &&& 1) = 0 then
        (f_X8_pair x2 x6 σ).bind fun q1 =>
        (ldI (q1.2.1 55) 42 q1.1).bind fun v2 =>
        (f_J6_bitCount_0f7a4 v2 q1.2).bind fun q3 =>
        if x4 = (-1) then
          f_X5_tightest_9 n x2 x3 x6 q3.1 (x6 + 1) q3.2
        else
          if x5 ≤ q3.1 then
            f_X5_tightest_9 n x2 x3 x4 x5 (x6 + 1) q3.2
          else
            f_X5_tightest_9 n x2 x3 x6 q3.1 (x6 + 1) q3.2
      else
        f_X5_tightest_9 n x2 x3 x4 x5 (x6 + 1) σ
set_option maxRecDepth 20000 in
theorem w_X5_tightest_9 {d : Nat} {p : Int32 × HS} : ∀ (n : Nat) (x2 : Int32) (x3 : Int32) (x4 : Int32) (x5 : Int32) (x6 : Int32) (σ : HS), f_X5_tightest_9 n x2 x3 x4 x5 x6 σ = some p → PW RX5 cX5_tightest 8 (hs_zM (d + 2) (some .int) (some (.int p.1), p.2)) 9 [some (.ref 54), some (.ref 42), some (.int x2), some (.int x3), some (.int x4), some (.int x5), some (.int x6), none] [] σ := by
  intro n
  induction n with
  | zero =>
    intro x2 x3 x4 x5 x6 σ h
    rw [f_X5_tightest_9] at h
    cases h
  | succ n ih =>
    intro x2 x3 x4 x5 x6 σ h
    rw [f_X5_tightest_9] at h
    refine pw_iload eX5_tightest_9 rfl ?_
    refine pw_aload_n eX5_tightest_11 rfl ?_
    refine pw_getI eX5_tightest_12 fl_X5_68 ob_42 rfl ?_
    refine pw_icmp_ge (tgt := 70) eX5_tightest_15 (by decide) (fun c => ?_) (fun c => ?_)
    · have h := hs_it c h
      refine pw_iload eX5_tightest_70 rfl ?_
      exact pw_iret' eX5_tightest_72 h
    · have h := hs_ie c h
      refine pw_iload_n eX5_tightest_18 rfl ?_
      refine pw_iload eX5_tightest_19 rfl ?_
      refine pw_ishr eX5_tightest_21 ?_
      refine pw_iconst eX5_tightest_22 ki_1 ?_
      refine pw_iand eX5_tightest_23 ?_
      refine pw_if_ne (tgt := 64) eX5_tightest_24 (by decide) (fun c => ?_) (fun c => ?_)
      · have h := hs_ie c h
        refine pw_iinc eX5_tightest_64 (by decide) rfl ki_1 rfl rfl ?_
        refine pw_goto (pc' := 9) eX5_tightest_67 (by decide) ?_
        exact ih x2 x3 x4 x5 (x6 + 1) σ h
      · have h := hs_it c h
        refine pw_aload_n eX5_tightest_27 rfl ?_
        refine pw_getR (r := 55) eX5_tightest_28 fl_X5_9 ob_54 rfl ?_
        refine pw_iload_n eX5_tightest_31 rfl ?_
        refine pw_iload eX5_tightest_32 rfl ?_
        obtain ⟨q1, g, h⟩ := hs_bind h
        refine pw_mN2i eX5_tightest_34 mn_X5_74 (s_X8_pair g) (Nat.le_of_ble_eq_true rfl) ?_
        obtain ⟨v2, g, h⟩ := hs_bind h
        refine pw_iald' eX5_tightest_37 ai_55 g ?_
        obtain ⟨q3, g, h⟩ := hs_bind h
        refine pw_mS1i eX5_tightest_38 ms_X5_122 (s_J6_bitCount_0f7a4 g) (Nat.le_of_ble_eq_true rfl) ?_
        refine pw_istore eX5_tightest_41 (by decide) rfl rfl ?_
        refine pw_iload eX5_tightest_43 rfl ?_
        refine pw_iconst eX5_tightest_45 ki_m1 ?_
        refine pw_icmp_eq (tgt := 56) eX5_tightest_46 (by decide) (fun c => ?_) (fun c => ?_)
        · have h := hs_it c h
          refine pw_iload eX5_tightest_56 rfl ?_
          refine pw_istore eX5_tightest_58 (by decide) rfl rfl ?_
          refine pw_iload eX5_tightest_60 rfl ?_
          refine pw_istore eX5_tightest_62 (by decide) rfl rfl ?_
          refine pw_iinc eX5_tightest_64 (by decide) rfl ki_1 rfl rfl ?_
          refine pw_goto (pc' := 9) eX5_tightest_67 (by decide) ?_
          exact pw_le (ih x2 x3 x6 q3.1 (x6 + 1) q3.2 h) ⟨rfl, rfl, rfl, rfl, rfl, rfl, rfl, trivial⟩
        · have h := hs_ie c h
          refine pw_iload eX5_tightest_49 rfl ?_
          refine pw_iload eX5_tightest_51 rfl ?_
          refine pw_icmp_ge (tgt := 64) eX5_tightest_53 (by decide) (fun c => ?_) (fun c => ?_)
          · have h := hs_it c h
            refine pw_iinc eX5_tightest_64 (by decide) rfl ki_1 rfl rfl ?_
            refine pw_goto (pc' := 9) eX5_tightest_67 (by decide) ?_
            exact pw_le (ih x2 x3 x4 x5 (x6 + 1) q3.2 h) ⟨rfl, rfl, rfl, rfl, rfl, rfl, rfl, trivial⟩
          · have h := hs_ie c h
            refine pw_iload eX5_tightest_56 rfl ?_
            refine pw_istore eX5_tightest_58 (by decide) rfl rfl ?_
            refine pw_iload eX5_tightest_60 rfl ?_
            refine pw_istore eX5_tightest_62 (by decide) rfl rfl ?_
            refine pw_iinc eX5_tightest_64 (by decide) rfl ki_1 rfl rfl ?_
            refine pw_goto (pc' := 9) eX5_tightest_67 (by decide) ?_
            exact pw_le (ih x2 x3 x6 q3.1 (x6 + 1) q3.2 h) ⟨rfl, rfl, rfl, rfl, rfl, rfl, rfl, trivial⟩
def f_X5_tightest (x2 : Int32) (x3 : Int32) (σ : HS) : Option (Int32 × HS) :=
  f_X5_tightest_9 FU x2 x3 (-1) 0 0 σ
set_option maxRecDepth 20000 in
theorem s_X5_tightest {d : Nat} {x2 : Int32} {x3 : Int32} {σ : HS} {p : Int32 × HS} (h : f_X5_tightest x2 x3 σ = some p) : hs_Spec (d + 2) yX5_tightest cX5_tightest 8 (some .int) [.ref 54, .ref 42, .int x2, .int x3] σ (some (.int p.1), p.2) := by
  refine hs_spec' (by decide +kernel) rfl (Nat.le_of_ble_eq_true rfl) ?_
  show PW RX5 cX5_tightest 8 (hs_zM (d + 2) (some .int) (some (.int p.1), p.2)) 0 [some (.ref 54), some (.ref 42), some (.int x2), some (.int x3), none, none, none, none] [] σ
  rw [f_X5_tightest] at h
  refine pw_iconst eX5_tightest_0 ki_m1 ?_
  refine pw_istore eX5_tightest_1 (by decide) rfl rfl ?_
  refine pw_iconst eX5_tightest_3 ki_0 ?_
  refine pw_istore eX5_tightest_4 (by decide) rfl rfl ?_
  refine pw_iconst eX5_tightest_6 ki_0 ?_
  refine pw_istore eX5_tightest_7 (by decide) rfl rfl ?_
  exact w_X5_tightest_9 FU x2 x3 (-1) 0 0 σ h

def f_X5_isFull_6 : Nat → Int32 → Int32 → Int32 → Int32 → HS → Option (Int32 × HS)
  | 0, _, _, _, _, _ => none
  | n + 1, x2, x3, x4, x5, σ =>
    if (σ.1 42 7) ≤ x5 then
      if x4 < (σ.1 42 8) then
        some (0, σ)
      else
        some (1, σ)
    else
      if ((x3 >>> (x5 &&& 31)) &&& 1) = 0 then
        f_X5_isFull_6 n x2 x3 x4 (x5 + 1) σ
      else
        (ldI (σ.1 57) 6 x5).bind fun v1 =>
        if v1 = x2 then
          f_X5_isFull_6 n x2 x3 (x4 + 1) (x5 + 1) σ
        else
          f_X5_isFull_6 n x2 x3 x4 (x5 + 1) σ
set_option maxRecDepth 20000 in
theorem w_X5_isFull_6 {d : Nat} {p : Int32 × HS} : ∀ (n : Nat) (x2 : Int32) (x3 : Int32) (x4 : Int32) (x5 : Int32) (σ : HS), f_X5_isFull_6 n x2 x3 x4 x5 σ = some p → PW RX5 cX5_isFull 6 (hs_zM (d + 1) (some .boolean) (some (.int p.1), p.2)) 6 [some (.ref 54), some (.ref 42), some (.int x2), some (.int x3), some (.int x4), some (.int x5)] [] σ := by
  intro n
  induction n with
  | zero =>
    intro x2 x3 x4 x5 σ h
    rw [f_X5_isFull_6] at h
    cases h
  | succ n ih =>
    intro x2 x3 x4 x5 σ h
    rw [f_X5_isFull_6] at h
    refine pw_iload eX5_isFull_6 rfl ?_
    refine pw_aload_n eX5_isFull_8 rfl ?_
    refine pw_getI eX5_isFull_9 fl_X5_68 ob_42 rfl ?_
    refine pw_icmp_ge (tgt := 44) eX5_isFull_12 (by decide) (fun c => ?_) (fun c => ?_)
    · have h := hs_it c h
      refine pw_iload eX5_isFull_44 rfl ?_
      refine pw_aload_n eX5_isFull_46 rfl ?_
      refine pw_getI eX5_isFull_47 fl_X5_133 ob_42 rfl ?_
      refine pw_icmp_lt (tgt := 57) eX5_isFull_50 (by decide) (fun c => ?_) (fun c => ?_)
      · have h := hs_it c h
        refine pw_iconst eX5_isFull_57 ki_0 ?_
        exact pw_zret' eX5_isFull_58 narrow_b0 h
      · have h := hs_ie c h
        refine pw_iconst eX5_isFull_53 ki_1 ?_
        refine pw_goto (pc' := 58) eX5_isFull_54 (by decide) ?_
        exact pw_zret' eX5_isFull_58 narrow_b1 h
    · have h := hs_ie c h
      refine pw_iload_n eX5_isFull_15 rfl ?_
      refine pw_iload eX5_isFull_16 rfl ?_
      refine pw_ishr eX5_isFull_18 ?_
      refine pw_iconst eX5_isFull_19 ki_1 ?_
      refine pw_iand eX5_isFull_20 ?_
      refine pw_if_eq (tgt := 38) eX5_isFull_21 (by decide) (fun c => ?_) (fun c => ?_)
      · have h := hs_it c h
        refine pw_iinc eX5_isFull_38 (by decide) rfl ki_1 rfl rfl ?_
        refine pw_goto (pc' := 6) eX5_isFull_41 (by decide) ?_
        exact ih x2 x3 x4 (x5 + 1) σ h
      · have h := hs_ie c h
        refine pw_aload_n eX5_isFull_24 rfl ?_
        refine pw_getR (r := 57) eX5_isFull_25 fl_X5_18 ob_54 rfl ?_
        refine pw_iload eX5_isFull_28 rfl ?_
        obtain ⟨v1, g, h⟩ := hs_bind h
        refine pw_iald' eX5_isFull_30 ai_57 g ?_
        refine pw_iload_n eX5_isFull_31 rfl ?_
        refine pw_icmp_ne (tgt := 38) eX5_isFull_32 (by decide) (fun c => ?_) (fun c => ?_)
        · have h := hs_ie c h
          refine pw_iinc eX5_isFull_38 (by decide) rfl ki_1 rfl rfl ?_
          refine pw_goto (pc' := 6) eX5_isFull_41 (by decide) ?_
          exact ih x2 x3 x4 (x5 + 1) σ h
        · have h := hs_it c h
          refine pw_iinc eX5_isFull_35 (by decide) rfl ki_1 rfl rfl ?_
          refine pw_iinc eX5_isFull_38 (by decide) rfl ki_1 rfl rfl ?_
          refine pw_goto (pc' := 6) eX5_isFull_41 (by decide) ?_
          exact ih x2 x3 (x4 + 1) (x5 + 1) σ h
def f_X5_isFull (x2 : Int32) (x3 : Int32) (σ : HS) : Option (Int32 × HS) :=
  f_X5_isFull_6 FU x2 x3 0 0 σ
set_option maxRecDepth 20000 in
theorem s_X5_isFull {d : Nat} {x2 : Int32} {x3 : Int32} {σ : HS} {p : Int32 × HS} (h : f_X5_isFull x2 x3 σ = some p) : hs_Spec (d + 1) yX5_isFull cX5_isFull 6 (some .boolean) [.ref 54, .ref 42, .int x2, .int x3] σ (some (.int p.1), p.2) := by
  refine hs_spec' (by decide +kernel) rfl (Nat.le_of_ble_eq_true rfl) ?_
  show PW RX5 cX5_isFull 6 (hs_zM (d + 1) (some .boolean) (some (.int p.1), p.2)) 0 [some (.ref 54), some (.ref 42), some (.int x2), some (.int x3), none, none] [] σ
  rw [f_X5_isFull] at h
  refine pw_iconst eX5_isFull_0 ki_0 ?_
  refine pw_istore eX5_isFull_1 (by decide) rfl rfl ?_
  refine pw_iconst eX5_isFull_3 ki_0 ?_
  refine pw_istore eX5_isFull_4 (by decide) rfl rfl ?_
  exact w_X5_isFull_6 FU x2 x3 0 0 σ h

def f_X5_narrow_167 (rec : Int32 → Int32 → Int32 → Int32 → Int32 → Int32 → HS → Option (Int32 × HS)) (x2 : Int32) (x3 : Int32) (x4 : Int32) (x5 : Int32) (x6 : Int32) (x7 : Int32) (x8 : Int32) (σ : HS) : Option (Int32 × HS) :=
  if x8 = 0 then
    some (0, σ)
  else
    (f_X8_pair (x2 + 1) x7 σ).bind fun q11 =>
    (stI q11.2 55 42 q11.1 x8).bind fun σ12 =>
    rec x2 x3 x4 x5 x6 (x7 + 1) σ12
set_option maxRecDepth 20000 in
theorem w_X5_narrow_167 {d : Nat} {p : Int32 × HS} {rec : Int32 → Int32 → Int32 → Int32 → Int32 → Int32 → HS → Option (Int32 × HS)} (hrec : ∀ (x2 : Int32) (x3 : Int32) (x4 : Int32) (x5 : Int32) (x6 : Int32) (x7 : Int32) (σ : HS), rec x2 x3 x4 x5 x6 x7 σ = some p → PW RX5 cX5_narrow 9 (hs_zM (d + 2) (some .boolean) (some (.int p.1), p.2)) 33 [some (.ref 54), some (.ref 42), some (.int x2), some (.int x3), some (.int x4), some (.int x5), some (.int x6), some (.int x7), none] [] σ) : ∀ (x2 : Int32) (x3 : Int32) (x4 : Int32) (x5 : Int32) (x6 : Int32) (x7 : Int32) (x8 : Int32) (σ : HS), f_X5_narrow_167 rec x2 x3 x4 x5 x6 x7 x8 σ = some p → PW RX5 cX5_narrow 9 (hs_zM (d + 2) (some .boolean) (some (.int p.1), p.2)) 167 [some (.ref 54), some (.ref 42), some (.int x2), some (.int x3), some (.int x4), some (.int x5), some (.int x6), some (.int x7), some (.int x8)] [] σ := by
  intro x2 x3 x4 x5 x6 x7 x8 σ h
  rw [f_X5_narrow_167] at h
  refine pw_iload eX5_narrow_167 rfl ?_
  refine pw_if_ne (tgt := 174) eX5_narrow_169 (by decide) (fun c => ?_) (fun c => ?_)
  · have h := hs_ie c h
    refine pw_aload_n eX5_narrow_174 rfl ?_
    refine pw_getR (r := 55) eX5_narrow_175 fl_X5_9 ob_54 rfl ?_
    refine pw_iload_n eX5_narrow_178 rfl ?_
    refine pw_iconst eX5_narrow_179 ki_1 ?_
    refine pw_iadd eX5_narrow_180 ?_
    refine pw_iload eX5_narrow_181 rfl ?_
    obtain ⟨q11, g, h⟩ := hs_bind h
    refine pw_mN2i eX5_narrow_183 mn_X5_74 (s_X8_pair g) (Nat.le_of_ble_eq_true rfl) ?_
    refine pw_iload eX5_narrow_186 rfl ?_
    obtain ⟨σ12, g, h⟩ := hs_bind h
    refine pw_iast' eX5_narrow_188 ai_55 g ?_
    refine pw_iinc eX5_narrow_189 (by decide) rfl ki_1 rfl rfl ?_
    refine pw_goto (pc' := 33) eX5_narrow_192 (by decide) ?_
    exact pw_le (hrec x2 x3 x4 x5 x6 (x7 + 1) σ12 h) ⟨rfl, rfl, rfl, rfl, rfl, rfl, rfl, rfl, trivial⟩
  · have h := hs_it c h
    refine pw_iconst eX5_narrow_172 ki_0 ?_
    exact pw_zret' eX5_narrow_173 narrow_b0 h
def f_X5_narrow_130 (rec : Int32 → Int32 → Int32 → Int32 → Int32 → Int32 → HS → Option (Int32 × HS)) (x2 : Int32) (x3 : Int32) (x4 : Int32) (x5 : Int32) (x6 : Int32) (x7 : Int32) (x8 : Int32) (σ : HS) : Option (Int32 × HS) :=
  (f_X8_pair x7 x3 σ).bind fun q9 =>
  (ldI (q9.2.1 56) 36 q9.1).bind fun v10 =>
  if v10 = (-1) then
    f_X5_narrow_167 rec x2 x3 x4 x5 x6 x7 x8 q9.2
  else
    (f_X8_pair x7 x3 q9.2).bind fun q13 =>
    (ldI (q13.2.1 56) 36 q13.1).bind fun v14 =>
    (f_X5_upTo (x5 - v14) q13.2).bind fun q15 =>
    f_X5_narrow_167 rec x2 x3 x4 x5 x6 x7 (x8 &&& q15.1) q15.2
set_option maxRecDepth 20000 in
theorem w_X5_narrow_130 {d : Nat} {p : Int32 × HS} {rec : Int32 → Int32 → Int32 → Int32 → Int32 → Int32 → HS → Option (Int32 × HS)} (hrec : ∀ (x2 : Int32) (x3 : Int32) (x4 : Int32) (x5 : Int32) (x6 : Int32) (x7 : Int32) (σ : HS), rec x2 x3 x4 x5 x6 x7 σ = some p → PW RX5 cX5_narrow 9 (hs_zM (d + 2) (some .boolean) (some (.int p.1), p.2)) 33 [some (.ref 54), some (.ref 42), some (.int x2), some (.int x3), some (.int x4), some (.int x5), some (.int x6), some (.int x7), none] [] σ) : ∀ (x2 : Int32) (x3 : Int32) (x4 : Int32) (x5 : Int32) (x6 : Int32) (x7 : Int32) (x8 : Int32) (σ : HS), f_X5_narrow_130 rec x2 x3 x4 x5 x6 x7 x8 σ = some p → PW RX5 cX5_narrow 9 (hs_zM (d + 2) (some .boolean) (some (.int p.1), p.2)) 130 [some (.ref 54), some (.ref 42), some (.int x2), some (.int x3), some (.int x4), some (.int x5), some (.int x6), some (.int x7), some (.int x8)] [] σ := by
  intro x2 x3 x4 x5 x6 x7 x8 σ h
  rw [f_X5_narrow_130] at h
  refine pw_aload_n eX5_narrow_130 rfl ?_
  refine pw_getR (r := 56) eX5_narrow_131 fl_X5_15 ob_54 rfl ?_
  refine pw_iload eX5_narrow_134 rfl ?_
  refine pw_iload_n eX5_narrow_136 rfl ?_
  obtain ⟨q9, g, h⟩ := hs_bind h
  refine pw_mN2i eX5_narrow_137 mn_X5_74 (s_X8_pair g) (Nat.le_of_ble_eq_true rfl) ?_
  obtain ⟨v10, g, h⟩ := hs_bind h
  refine pw_iald' eX5_narrow_140 ai_56 g ?_
  refine pw_iconst eX5_narrow_141 ki_m1 ?_
  refine pw_icmp_eq (tgt := 167) eX5_narrow_142 (by decide) (fun c => ?_) (fun c => ?_)
  · have h := hs_it c h
    exact w_X5_narrow_167 hrec x2 x3 x4 x5 x6 x7 x8 q9.2 h
  · have h := hs_ie c h
    refine pw_iload eX5_narrow_145 rfl ?_
    refine pw_iload eX5_narrow_147 rfl ?_
    refine pw_aload_n eX5_narrow_149 rfl ?_
    refine pw_getR (r := 56) eX5_narrow_150 fl_X5_15 ob_54 rfl ?_
    refine pw_iload eX5_narrow_153 rfl ?_
    refine pw_iload_n eX5_narrow_155 rfl ?_
    obtain ⟨q13, g, h⟩ := hs_bind h
    refine pw_mN2i eX5_narrow_156 mn_X5_74 (s_X8_pair g) (Nat.le_of_ble_eq_true rfl) ?_
    obtain ⟨v14, g, h⟩ := hs_bind h
    refine pw_iald' eX5_narrow_159 ai_56 g ?_
    refine pw_isub eX5_narrow_160 ?_
    obtain ⟨q15, g, h⟩ := hs_bind h
    refine pw_mS1i eX5_narrow_161 ms_X5_107 (s_X5_upTo g) (Nat.le_of_ble_eq_true rfl) ?_
    refine pw_iand eX5_narrow_164 ?_
    refine pw_istore eX5_narrow_165 (by decide) rfl rfl ?_
    exact w_X5_narrow_167 hrec x2 x3 x4 x5 x6 x7 (x8 &&& q15.1) q15.2 h
def f_X5_narrow_33 : Nat → Int32 → Int32 → Int32 → Int32 → Int32 → Int32 → HS → Option (Int32 × HS)
  | 0, _, _, _, _, _, _, _ => none
  | n + 1, x2, x3, x4, x5, x6, x7, σ =>
    if (σ.1 42 7) ≤ x7 then
      some (1, σ)
    else
      if ((x4 >>> (x7 &&& 31)) &&& 1) = 0 then
        (f_X8_pair x2 x7 σ).bind fun q3 =>
        (ldI (q3.2.1 55) 42 q3.1).bind fun v4 =>
        (f_X8_pair x3 x7 q3.2).bind fun q5 =>
        (ldI (q5.2.1 48) 36 q5.1).bind fun v6 =>
        (f_X8_pair x3 x7 q5.2).bind fun q7 =>
        (ldI (q7.2.1 56) 36 q7.1).bind fun v8 =>
        if v8 = (-1) then
          f_X5_narrow_130 (f_X5_narrow_33 n) x2 x3 x4 x5 x6 x7 ((v4 &&& (x6 ^^^ (-1))) &&& (((((v6 <<< (x5 &&& 31)) : Int32).toUInt32 >>> ((3 : Int32).toUInt32 &&& Int32.toUInt32 31)).toInt32) ^^^ (-1))) q7.2
        else
          (f_X8_pair x3 x7 q7.2).bind fun q16 =>
          (ldI (q16.2.1 56) 36 q16.1).bind fun v17 =>
          (f_X5_from (x5 + v17) q16.2).bind fun q18 =>
          f_X5_narrow_130 (f_X5_narrow_33 n) x2 x3 x4 x5 x6 x7 (((v4 &&& (x6 ^^^ (-1))) &&& (((((v6 <<< (x5 &&& 31)) : Int32).toUInt32 >>> ((3 : Int32).toUInt32 &&& Int32.toUInt32 31)).toInt32) ^^^ (-1))) &&& q18.1) q18.2
      else
        f_X5_narrow_33 n x2 x3 x4 x5 x6 (x7 + 1) σ
set_option maxRecDepth 20000 in
theorem w_X5_narrow_33 {d : Nat} {p : Int32 × HS} : ∀ (n : Nat) (x2 : Int32) (x3 : Int32) (x4 : Int32) (x5 : Int32) (x6 : Int32) (x7 : Int32) (σ : HS), f_X5_narrow_33 n x2 x3 x4 x5 x6 x7 σ = some p → PW RX5 cX5_narrow 9 (hs_zM (d + 2) (some .boolean) (some (.int p.1), p.2)) 33 [some (.ref 54), some (.ref 42), some (.int x2), some (.int x3), some (.int x4), some (.int x5), some (.int x6), some (.int x7), none] [] σ := by
  intro n
  induction n with
  | zero =>
    intro x2 x3 x4 x5 x6 x7 σ h
    rw [f_X5_narrow_33] at h
    cases h
  | succ n ih =>
    intro x2 x3 x4 x5 x6 x7 σ h
    rw [f_X5_narrow_33] at h
    refine pw_iload eX5_narrow_33 rfl ?_
    refine pw_aload_n eX5_narrow_35 rfl ?_
    refine pw_getI eX5_narrow_36 fl_X5_68 ob_42 rfl ?_
    refine pw_icmp_ge (tgt := 195) eX5_narrow_39 (by decide) (fun c => ?_) (fun c => ?_)
    · have h := hs_it c h
      refine pw_iconst eX5_narrow_195 ki_1 ?_
      exact pw_zret' eX5_narrow_196 narrow_b1 h
    · have h := hs_ie c h
      refine pw_iload eX5_narrow_42 rfl ?_
      refine pw_iload eX5_narrow_44 rfl ?_
      refine pw_ishr eX5_narrow_46 ?_
      refine pw_iconst eX5_narrow_47 ki_1 ?_
      refine pw_iand eX5_narrow_48 ?_
      refine pw_if_ne (tgt := 189) eX5_narrow_49 (by decide) (fun c => ?_) (fun c => ?_)
      · have h := hs_ie c h
        refine pw_iinc eX5_narrow_189 (by decide) rfl ki_1 rfl rfl ?_
        refine pw_goto (pc' := 33) eX5_narrow_192 (by decide) ?_
        exact ih x2 x3 x4 x5 x6 (x7 + 1) σ h
      · have h := hs_it c h
        refine pw_aload_n eX5_narrow_52 rfl ?_
        refine pw_getR (r := 55) eX5_narrow_53 fl_X5_9 ob_54 rfl ?_
        refine pw_iload_n eX5_narrow_56 rfl ?_
        refine pw_iload eX5_narrow_57 rfl ?_
        obtain ⟨q3, g, h⟩ := hs_bind h
        refine pw_mN2i eX5_narrow_59 mn_X5_74 (s_X8_pair g) (Nat.le_of_ble_eq_true rfl) ?_
        obtain ⟨v4, g, h⟩ := hs_bind h
        refine pw_iald' eX5_narrow_62 ai_55 g ?_
        refine pw_iload eX5_narrow_63 rfl ?_
        refine pw_iconst eX5_narrow_65 ki_m1 ?_
        refine pw_ixor eX5_narrow_66 ?_
        refine pw_iand eX5_narrow_67 ?_
        refine pw_istore eX5_narrow_68 (by decide) rfl rfl ?_
        refine pw_iload eX5_narrow_70 rfl ?_
        refine pw_aload_n eX5_narrow_72 rfl ?_
        refine pw_getR (r := 48) eX5_narrow_73 fl_X5_130 ob_42 rfl ?_
        refine pw_iload_n eX5_narrow_76 rfl ?_
        refine pw_iload eX5_narrow_77 rfl ?_
        obtain ⟨q5, g, h⟩ := hs_bind h
        refine pw_mN2i eX5_narrow_79 mn_X5_74 (s_X8_pair g) (Nat.le_of_ble_eq_true rfl) ?_
        obtain ⟨v6, g, h⟩ := hs_bind h
        refine pw_iald' eX5_narrow_82 ai_48 g ?_
        refine pw_iload eX5_narrow_83 rfl ?_
        refine pw_ishl eX5_narrow_85 ?_
        refine pw_iconst eX5_narrow_86 ki_3 ?_
        refine pw_iushr eX5_narrow_87 ?_
        refine pw_iconst eX5_narrow_88 ki_m1 ?_
        refine pw_ixor eX5_narrow_89 ?_
        refine pw_iand eX5_narrow_90 ?_
        refine pw_istore eX5_narrow_91 (by decide) rfl rfl ?_
        refine pw_aload_n eX5_narrow_93 rfl ?_
        refine pw_getR (r := 56) eX5_narrow_94 fl_X5_15 ob_54 rfl ?_
        refine pw_iload_n eX5_narrow_97 rfl ?_
        refine pw_iload eX5_narrow_98 rfl ?_
        obtain ⟨q7, g, h⟩ := hs_bind h
        refine pw_mN2i eX5_narrow_100 mn_X5_74 (s_X8_pair g) (Nat.le_of_ble_eq_true rfl) ?_
        obtain ⟨v8, g, h⟩ := hs_bind h
        refine pw_iald' eX5_narrow_103 ai_56 g ?_
        refine pw_iconst eX5_narrow_104 ki_m1 ?_
        refine pw_icmp_eq (tgt := 130) eX5_narrow_105 (by decide) (fun c => ?_) (fun c => ?_)
        · have h := hs_it c h
          exact w_X5_narrow_130 ih x2 x3 x4 x5 x6 x7 ((v4 &&& (x6 ^^^ (-1))) &&& (((((v6 <<< (x5 &&& 31)) : Int32).toUInt32 >>> ((3 : Int32).toUInt32 &&& Int32.toUInt32 31)).toInt32) ^^^ (-1))) q7.2 h
        · have h := hs_ie c h
          refine pw_iload eX5_narrow_108 rfl ?_
          refine pw_iload eX5_narrow_110 rfl ?_
          refine pw_aload_n eX5_narrow_112 rfl ?_
          refine pw_getR (r := 56) eX5_narrow_113 fl_X5_15 ob_54 rfl ?_
          refine pw_iload_n eX5_narrow_116 rfl ?_
          refine pw_iload eX5_narrow_117 rfl ?_
          obtain ⟨q16, g, h⟩ := hs_bind h
          refine pw_mN2i eX5_narrow_119 mn_X5_74 (s_X8_pair g) (Nat.le_of_ble_eq_true rfl) ?_
          obtain ⟨v17, g, h⟩ := hs_bind h
          refine pw_iald' eX5_narrow_122 ai_56 g ?_
          refine pw_iadd eX5_narrow_123 ?_
          obtain ⟨q18, g, h⟩ := hs_bind h
          refine pw_mS1i eX5_narrow_124 ms_X5_100 (s_X5_from g) (Nat.le_of_ble_eq_true rfl) ?_
          refine pw_iand eX5_narrow_127 ?_
          refine pw_istore eX5_narrow_128 (by decide) rfl rfl ?_
          exact w_X5_narrow_130 ih x2 x3 x4 x5 x6 x7 (((v4 &&& (x6 ^^^ (-1))) &&& (((((v6 <<< (x5 &&& 31)) : Int32).toUInt32 >>> ((3 : Int32).toUInt32 &&& Int32.toUInt32 31)).toInt32) ^^^ (-1))) &&& q18.1) q18.2 h
def f_X5_narrow (x2 : Int32) (x3 : Int32) (x4 : Int32) (σ : HS) : Option (Int32 × HS) :=
  (ldI (σ.1 57) 6 x3).bind fun v1 =>
  (f_X5_isFull v1 x4 σ).bind fun q2 =>
  if q2.1 = 0 then
    f_X5_narrow_33 FU x2 x3 x4 v1 0 0 q2.2
  else
    f_X5_narrow_33 FU x2 x3 x4 v1 ((1 : Int32) <<< (v1 &&& 31)) 0 q2.2
set_option maxRecDepth 20000 in
theorem s_X5_narrow {d : Nat} {x2 : Int32} {x3 : Int32} {x4 : Int32} {σ : HS} {p : Int32 × HS} (h : f_X5_narrow x2 x3 x4 σ = some p) : hs_Spec (d + 2) yX5_narrow cX5_narrow 9 (some .boolean) [.ref 54, .ref 42, .int x2, .int x3, .int x4] σ (some (.int p.1), p.2) := by
  refine hs_spec' (by decide +kernel) rfl (Nat.le_of_ble_eq_true rfl) ?_
  show PW RX5 cX5_narrow 9 (hs_zM (d + 2) (some .boolean) (some (.int p.1), p.2)) 0 [some (.ref 54), some (.ref 42), some (.int x2), some (.int x3), some (.int x4), none, none, none, none] [] σ
  rw [f_X5_narrow] at h
  refine pw_aload_n eX5_narrow_0 rfl ?_
  refine pw_getR (r := 57) eX5_narrow_1 fl_X5_18 ob_54 rfl ?_
  refine pw_iload_n eX5_narrow_4 rfl ?_
  obtain ⟨v1, g, h⟩ := hs_bind h
  refine pw_iald' eX5_narrow_5 ai_57 g ?_
  refine pw_istore eX5_narrow_6 (by decide) rfl rfl ?_
  refine pw_aload_n eX5_narrow_8 rfl ?_
  refine pw_aload_n eX5_narrow_9 rfl ?_
  refine pw_iload eX5_narrow_10 rfl ?_
  refine pw_iload eX5_narrow_12 rfl ?_
  obtain ⟨q2, g, h⟩ := hs_bind h
  refine pw_mV3i eX5_narrow_14 mv_X5_127 ob_54 (s_X5_isFull g) (Nat.le_of_ble_eq_true rfl) ?_
  refine pw_if_eq (tgt := 27) eX5_narrow_17 (by decide) (fun c => ?_) (fun c => ?_)
  · have h := hs_it c h
    refine pw_iconst eX5_narrow_27 ki_0 ?_
    refine pw_istore eX5_narrow_28 (by decide) rfl rfl ?_
    refine pw_iconst eX5_narrow_30 ki_0 ?_
    refine pw_istore eX5_narrow_31 (by decide) rfl rfl ?_
    exact w_X5_narrow_33 FU x2 x3 x4 v1 0 0 q2.2 h
  · have h := hs_ie c h
    refine pw_iconst eX5_narrow_20 ki_1 ?_
    refine pw_iload eX5_narrow_21 rfl ?_
    refine pw_ishl eX5_narrow_23 ?_
    refine pw_goto (pc' := 28) eX5_narrow_24 (by decide) ?_
    refine pw_istore eX5_narrow_28 (by decide) rfl rfl ?_
    refine pw_iconst eX5_narrow_30 ki_0 ?_
    refine pw_istore eX5_narrow_31 (by decide) rfl rfl ?_
    exact w_X5_narrow_33 FU x2 x3 x4 v1 ((1 : Int32) <<< (v1 &&& 31)) 0 q2.2 h

def g_X5_isPossible (rc : Int32 → Int32 → HS → Option (Int32 × HS)) (x2 : Int32) (x3 : Int32) (x4 : Int32) (x5 : Int32) (σ : HS) : Option (Int32 × HS) :=
  (stI σ 57 6 x3 x4).bind fun σ1 =>
  (f_X5_narrow x2 x3 x5 σ1).bind fun q2 =>
  if q2.1 = 0 then
    some (0, q2.2)
  else
    (rc (x2 + 1) x5 q2.2).bind fun q3 =>
    if q3.1 = 0 then
      some (0, q3.2)
    else
      some (1, q3.2)
set_option maxRecDepth 20000 in
theorem sg_X5_isPossible {d : Nat} {n0 : Nat} {rc : Int32 → Int32 → HS → Option (Int32 × HS)} (hrc : ∀ (a b : Int32) (σ : HS) (p : Int32 × HS), rc a b σ = some p → hs_Spec (d + n0 + 3) yX5_place cX5_place 7 (some .boolean) [.ref 54, .ref 42, .int a, .int b] σ (some (.int p.1), p.2)) {x2 : Int32} {x3 : Int32} {x4 : Int32} {x5 : Int32} {σ : HS} {p : Int32 × HS} (h : g_X5_isPossible rc x2 x3 x4 x5 σ = some p) : hs_Spec (d + n0 + 1 + 3) yX5_isPossible cX5_isPossible 6 (some .boolean) [.ref 54, .ref 42, .int x2, .int x3, .int x4, .int x5] σ (some (.int p.1), p.2) := by
  refine hs_spec' (by decide +kernel) rfl (Nat.le_of_ble_eq_true rfl) ?_
  show PW RX5 cX5_isPossible 6 (hs_zM (d + n0 + 1 + 3) (some .boolean) (some (.int p.1), p.2)) 0 [some (.ref 54), some (.ref 42), some (.int x2), some (.int x3), some (.int x4), some (.int x5)] [] σ
  rw [g_X5_isPossible] at h
  refine pw_aload_n eX5_isPossible_0 rfl ?_
  refine pw_getR (r := 57) eX5_isPossible_1 fl_X5_18 ob_54 rfl ?_
  refine pw_iload_n eX5_isPossible_4 rfl ?_
  refine pw_iload eX5_isPossible_5 rfl ?_
  obtain ⟨σ1, g, h⟩ := hs_bind h
  refine pw_iast' eX5_isPossible_7 ai_57 g ?_
  refine pw_aload_n eX5_isPossible_8 rfl ?_
  refine pw_aload_n eX5_isPossible_9 rfl ?_
  refine pw_iload_n eX5_isPossible_10 rfl ?_
  refine pw_iload_n eX5_isPossible_11 rfl ?_
  refine pw_iload eX5_isPossible_12 rfl ?_
  obtain ⟨q2, g, h⟩ := hs_bind h
  refine pw_mV4i eX5_isPossible_14 mv_X5_118 ob_54 (s_X5_narrow g) (Nat.le_of_ble_eq_true rfl) ?_
  refine pw_if_eq (tgt := 37) eX5_isPossible_17 (by decide) (fun c => ?_) (fun c => ?_)
  · have h := hs_it c h
    refine pw_iconst eX5_isPossible_37 ki_0 ?_
    exact pw_zret' eX5_isPossible_38 narrow_b0 h
  · have h := hs_ie c h
    refine pw_aload_n eX5_isPossible_20 rfl ?_
    refine pw_aload_n eX5_isPossible_21 rfl ?_
    refine pw_iload_n eX5_isPossible_22 rfl ?_
    refine pw_iconst eX5_isPossible_23 ki_1 ?_
    refine pw_iadd eX5_isPossible_24 ?_
    refine pw_iload eX5_isPossible_25 rfl ?_
    obtain ⟨q3, g, h⟩ := hs_bind h
    refine pw_mV3i eX5_isPossible_27 mv_X5_94 ob_54 (hrc _ _ _ _ g) (Nat.le_of_ble_eq_true rfl) ?_
    refine pw_if_eq (tgt := 37) eX5_isPossible_30 (by decide) (fun c => ?_) (fun c => ?_)
    · have h := hs_it c h
      refine pw_iconst eX5_isPossible_37 ki_0 ?_
      exact pw_zret' eX5_isPossible_38 narrow_b0 h
    · have h := hs_ie c h
      refine pw_iconst eX5_isPossible_33 ki_1 ?_
      refine pw_goto (pc' := 38) eX5_isPossible_34 (by decide) ?_
      exact pw_zret' eX5_isPossible_38 narrow_b1 h

def f_X5_place_43 (rc : Int32 → Int32 → HS → Option (Int32 × HS)) : Nat → Int32 → Int32 → Int32 → Int32 → Int32 → HS → Option (Int32 × HS)
  | 0, _, _, _, _, _, _ => none
  | n + 1, x2, x3, x4, x5, x6, σ =>
    if (25 : Int32) < x6 then
      some (0, σ)
    else
      if ((x5 >>> (x6 &&& 31)) &&& 1) = 0 then
        f_X5_place_43 rc n x2 x3 x4 x5 (x6 + 1) σ
      else
        (g_X5_isPossible rc x2 x4 x6 (x3 ||| ((1 : Int32) <<< (x4 &&& 31))) σ).bind fun q3 =>
        if q3.1 = 0 then
          f_X5_place_43 rc n x2 x3 x4 x5 (x6 + 1) q3.2
        else
          some (1, q3.2)
set_option maxRecDepth 20000 in
theorem w_X5_place_43 {d : Nat} {n0 : Nat} {rc : Int32 → Int32 → HS → Option (Int32 × HS)} (hrc : ∀ (a b : Int32) (σ : HS) (p : Int32 × HS), rc a b σ = some p → hs_Spec (d + n0 + 3) yX5_place cX5_place 7 (some .boolean) [.ref 54, .ref 42, .int a, .int b] σ (some (.int p.1), p.2)) {p : Int32 × HS} : ∀ (n : Nat) (x2 : Int32) (x3 : Int32) (x4 : Int32) (x5 : Int32) (x6 : Int32) (σ : HS), f_X5_place_43 rc n x2 x3 x4 x5 x6 σ = some p → PW RX5 cX5_place 7 (hs_zM (d + n0 + 2 + 3) (some .boolean) (some (.int p.1), p.2)) 43 [some (.ref 54), some (.ref 42), some (.int x2), some (.int x3), some (.int x4), some (.int x5), some (.int x6)] [] σ := by
  intro n
  induction n with
  | zero =>
    intro x2 x3 x4 x5 x6 σ h
    rw [f_X5_place_43] at h
    cases h
  | succ n ih =>
    intro x2 x3 x4 x5 x6 σ h
    rw [f_X5_place_43] at h
    refine pw_iload eX5_place_43 rfl ?_
    refine pw_bipush eX5_place_45 kb_25 ?_
    refine pw_icmp_gt (tgt := 87) eX5_place_47 (by decide) (fun c => ?_) (fun c => ?_)
    · have h := hs_it c h
      refine pw_iconst eX5_place_87 ki_0 ?_
      exact pw_zret' eX5_place_88 narrow_b0 h
    · have h := hs_ie c h
      refine pw_iload eX5_place_50 rfl ?_
      refine pw_iload eX5_place_52 rfl ?_
      refine pw_ishr eX5_place_54 ?_
      refine pw_iconst eX5_place_55 ki_1 ?_
      refine pw_iand eX5_place_56 ?_
      refine pw_if_eq (tgt := 81) eX5_place_57 (by decide) (fun c => ?_) (fun c => ?_)
      · have h := hs_it c h
        refine pw_iinc eX5_place_81 (by decide) rfl ki_1 rfl rfl ?_
        refine pw_goto (pc' := 43) eX5_place_84 (by decide) ?_
        exact ih x2 x3 x4 x5 (x6 + 1) σ h
      · have h := hs_ie c h
        refine pw_aload_n eX5_place_60 rfl ?_
        refine pw_aload_n eX5_place_61 rfl ?_
        refine pw_iload_n eX5_place_62 rfl ?_
        refine pw_iload eX5_place_63 rfl ?_
        refine pw_iload eX5_place_65 rfl ?_
        refine pw_iload_n eX5_place_67 rfl ?_
        refine pw_iconst eX5_place_68 ki_1 ?_
        refine pw_iload eX5_place_69 rfl ?_
        refine pw_ishl eX5_place_71 ?_
        refine pw_ior eX5_place_72 ?_
        obtain ⟨q3, g, h⟩ := hs_bind h
        refine pw_mV5i eX5_place_73 mv_X5_114 ob_54 (sg_X5_isPossible hrc g) (Nat.le_of_ble_eq_true rfl) ?_
        refine pw_if_eq (tgt := 81) eX5_place_76 (by decide) (fun c => ?_) (fun c => ?_)
        · have h := hs_it c h
          refine pw_iinc eX5_place_81 (by decide) rfl ki_1 rfl rfl ?_
          refine pw_goto (pc' := 43) eX5_place_84 (by decide) ?_
          exact ih x2 x3 x4 x5 (x6 + 1) q3.2 h
        · have h := hs_ie c h
          refine pw_iconst eX5_place_79 ki_1 ?_
          exact pw_zret' eX5_place_80 narrow_b1 h
def f_X5_place_17 (rc : Int32 → Int32 → HS → Option (Int32 × HS)) (x2 : Int32) (x3 : Int32) (t0 : Int32) (σ : HS) : Option (Int32 × HS) :=
  if t0 = (-1) then
    some (1, σ)
  else
    (f_X8_pair x2 t0 σ).bind fun q1 =>
    (ldI (q1.2.1 55) 42 q1.1).bind fun v2 =>
    f_X5_place_43 rc FU x2 x3 t0 v2 0 q1.2
set_option maxRecDepth 20000 in
theorem w_X5_place_17 {d : Nat} {n0 : Nat} {rc : Int32 → Int32 → HS → Option (Int32 × HS)} (hrc : ∀ (a b : Int32) (σ : HS) (p : Int32 × HS), rc a b σ = some p → hs_Spec (d + n0 + 3) yX5_place cX5_place 7 (some .boolean) [.ref 54, .ref 42, .int a, .int b] σ (some (.int p.1), p.2)) {p : Int32 × HS} : ∀ (x2 : Int32) (x3 : Int32) (t0 : Int32) (σ : HS), f_X5_place_17 rc x2 x3 t0 σ = some p → PW RX5 cX5_place 7 (hs_zM (d + n0 + 2 + 3) (some .boolean) (some (.int p.1), p.2)) 17 [some (.ref 54), some (.ref 42), some (.int x2), some (.int x3), none, none, none] [.int t0] σ := by
  intro x2 x3 t0 σ h
  rw [f_X5_place_17] at h
  refine pw_istore eX5_place_17 (by decide) rfl rfl ?_
  refine pw_iload eX5_place_19 rfl ?_
  refine pw_iconst eX5_place_21 ki_m1 ?_
  refine pw_icmp_ne (tgt := 27) eX5_place_22 (by decide) (fun c => ?_) (fun c => ?_)
  · have h := hs_ie c h
    refine pw_aload_n eX5_place_27 rfl ?_
    refine pw_getR (r := 55) eX5_place_28 fl_X5_9 ob_54 rfl ?_
    refine pw_iload_n eX5_place_31 rfl ?_
    refine pw_iload eX5_place_32 rfl ?_
    obtain ⟨q1, g, h⟩ := hs_bind h
    refine pw_mN2i eX5_place_34 mn_X5_74 (s_X8_pair g) (Nat.le_of_ble_eq_true rfl) ?_
    obtain ⟨v2, g, h⟩ := hs_bind h
    refine pw_iald' eX5_place_37 ai_55 g ?_
    refine pw_istore eX5_place_38 (by decide) rfl rfl ?_
    refine pw_iconst eX5_place_40 ki_0 ?_
    refine pw_istore eX5_place_41 (by decide) rfl rfl ?_
    exact w_X5_place_43 hrc FU x2 x3 t0 v2 0 q1.2 h
  · have h := hs_it c h
    refine pw_iconst eX5_place_25 ki_1 ?_
    exact pw_zret' eX5_place_26 narrow_b1 h
def g_X5_place (rc : Int32 → Int32 → HS → Option (Int32 × HS)) (x2 : Int32) (x3 : Int32) (σ : HS) : Option (Int32 × HS) :=
  if (6 : Int32) ≤ x2 then
    f_X5_place_17 rc x2 x3 (-1) σ
  else
    (f_X5_tightest x2 x3 σ).bind fun q4 =>
    f_X5_place_17 rc x2 x3 q4.1 q4.2
def f_X5_place : Nat → Int32 → Int32 → HS → Option (Int32 × HS)
  | 0, _, _, _ => none
  | n + 1, x2, x3, σ => g_X5_place (f_X5_place n) x2 x3 σ
set_option maxRecDepth 20000 in
theorem sg_X5_place {d : Nat} {n0 : Nat} {rc : Int32 → Int32 → HS → Option (Int32 × HS)} (hrc : ∀ (a b : Int32) (σ : HS) (p : Int32 × HS), rc a b σ = some p → hs_Spec (d + n0 + 3) yX5_place cX5_place 7 (some .boolean) [.ref 54, .ref 42, .int a, .int b] σ (some (.int p.1), p.2)) {x2 : Int32} {x3 : Int32} {σ : HS} {p : Int32 × HS} (h : g_X5_place rc x2 x3 σ = some p) : hs_Spec (d + n0 + 2 + 3) yX5_place cX5_place 7 (some .boolean) [.ref 54, .ref 42, .int x2, .int x3] σ (some (.int p.1), p.2) := by
  refine hs_spec' (by decide +kernel) rfl (Nat.le_of_ble_eq_true rfl) ?_
  show PW RX5 cX5_place 7 (hs_zM (d + n0 + 2 + 3) (some .boolean) (some (.int p.1), p.2)) 0 [some (.ref 54), some (.ref 42), some (.int x2), some (.int x3), none, none, none] [] σ
  rw [g_X5_place] at h
  refine pw_iload_n eX5_place_0 rfl ?_
  refine pw_bipush eX5_place_1 kb_6 ?_
  refine pw_icmp_ge (tgt := 16) eX5_place_3 (by decide) (fun c => ?_) (fun c => ?_)
  · have h := hs_it c h
    refine pw_iconst eX5_place_16 ki_m1 ?_
    exact w_X5_place_17 hrc x2 x3 (-1) σ h
  · have h := hs_ie c h
    refine pw_aload_n eX5_place_6 rfl ?_
    refine pw_aload_n eX5_place_7 rfl ?_
    refine pw_iload_n eX5_place_8 rfl ?_
    refine pw_iload_n eX5_place_9 rfl ?_
    obtain ⟨q4, g, h⟩ := hs_bind h
    refine pw_mV3i eX5_place_10 mv_X5_110 ob_54 (s_X5_tightest g) (Nat.le_of_ble_eq_true rfl) ?_
    refine pw_goto (pc' := 17) eX5_place_13 (by decide) ?_
    exact w_X5_place_17 hrc x2 x3 q4.1 q4.2 h
theorem sn_X5_place {d : Nat} : ∀ (n : Nat) (x2 : Int32) (x3 : Int32) (σ : HS) (p : Int32 × HS), f_X5_place n x2 x3 σ = some p → hs_Spec (d + 2 * n + 3) yX5_place cX5_place 7 (some .boolean) [.ref 54, .ref 42, .int x2, .int x3] σ (some (.int p.1), p.2) := by
  intro n
  induction n with
  | zero => intro x2 x3 σ p h; rw [f_X5_place] at h; cases h
  | succ n ih =>
    intro x2 x3 σ p h
    rw [f_X5_place] at h
    have e : d + 2 * (n + 1) + 3 = d + 2 * n + 2 + 3 := by omega
    rw [e]
    exact sg_X5_place ih h
theorem s_X5_place {d : Nat} {x2 : Int32} {x3 : Int32} {σ : HS} {p : Int32 × HS} (h : f_X5_place 7 x2 x3 σ = some p) : hs_Spec (d + 17) yX5_place cX5_place 7 (some .boolean) [.ref 54, .ref 42, .int x2, .int x3] σ (some (.int p.1), p.2) := sn_X5_place 7 _ _ σ p h
def f_X5_isPossible (x2 : Int32) (x3 : Int32) (x4 : Int32) (x5 : Int32) (σ : HS) : Option (Int32 × HS) := g_X5_isPossible (f_X5_place 7) x2 x3 x4 x5 σ
theorem s_X5_isPossible {d : Nat} {x2 : Int32} {x3 : Int32} {x4 : Int32} {x5 : Int32} {σ : HS} {p : Int32 × HS} (h : f_X5_isPossible x2 x3 x4 x5 σ = some p) : hs_Spec (d + 18) yX5_isPossible cX5_isPossible 6 (some .boolean) [.ref 54, .ref 42, .int x2, .int x3, .int x4, .int x5] σ (some (.int p.1), p.2) := by
  rw [f_X5_isPossible] at h
  exact sg_X5_isPossible (d := d) (n0 := 2 * 7) (sn_X5_place 7) h

def f_X5_hasPlan (σ : HS) : Option (Int32 × HS) :=
  (f_X5_openAll σ).bind fun q1 =>
  if q1.1 = 0 then
    some (0, q1.2)
  else
    (f_X5_place 7 0 0 q1.2).bind fun q2 =>
    if q2.1 = 0 then
      some (0, q2.2)
    else
      some (1, q2.2)
set_option maxRecDepth 20000 in
theorem s_X5_hasPlan {d : Nat} {σ : HS} {p : Int32 × HS} (h : f_X5_hasPlan σ = some p) : hs_Spec (d + 18) yX5_hasPlan cX5_hasPlan 2 (some .boolean) [.ref 54, .ref 42] σ (some (.int p.1), p.2) := by
  refine hs_spec' (by decide +kernel) rfl (Nat.le_of_ble_eq_true rfl) ?_
  show PW RX5 cX5_hasPlan 2 (hs_zM (d + 18) (some .boolean) (some (.int p.1), p.2)) 0 [some (.ref 54), some (.ref 42)] [] σ
  rw [f_X5_hasPlan] at h
  refine pw_aload_n eX5_hasPlan_0 rfl ?_
  refine pw_aload_n eX5_hasPlan_1 rfl ?_
  obtain ⟨q1, g, h⟩ := hs_bind h
  refine pw_mV1i eX5_hasPlan_2 mv_X5_91 ob_54 (s_X5_openAll g) (Nat.le_of_ble_eq_true rfl) ?_
  refine pw_if_eq (tgt := 22) eX5_hasPlan_5 (by decide) (fun c => ?_) (fun c => ?_)
  · have h := hs_it c h
    refine pw_iconst eX5_hasPlan_22 ki_0 ?_
    exact pw_zret' eX5_hasPlan_23 narrow_b0 h
  · have h := hs_ie c h
    refine pw_aload_n eX5_hasPlan_8 rfl ?_
    refine pw_aload_n eX5_hasPlan_9 rfl ?_
    refine pw_iconst eX5_hasPlan_10 ki_0 ?_
    refine pw_iconst eX5_hasPlan_11 ki_0 ?_
    obtain ⟨q2, g, h⟩ := hs_bind h
    refine pw_mV3i eX5_hasPlan_12 mv_X5_94 ob_54 (s_X5_place g) (Nat.le_of_ble_eq_true rfl) ?_
    refine pw_if_eq (tgt := 22) eX5_hasPlan_15 (by decide) (fun c => ?_) (fun c => ?_)
    · have h := hs_it c h
      refine pw_iconst eX5_hasPlan_22 ki_0 ?_
      exact pw_zret' eX5_hasPlan_23 narrow_b0 h
    · have h := hs_ie c h
      refine pw_iconst eX5_hasPlan_18 ki_1 ?_
      refine pw_goto (pc' := 23) eX5_hasPlan_19 (by decide) ?_
      exact pw_zret' eX5_hasPlan_23 narrow_b1 h

def f_X5_takeTrial (σ : HS) : Option (HS) :=
  (cpI σ 57 6 58 6 (σ.1 42 7)).bind fun σ1 =>
  some σ1
set_option maxRecDepth 20000 in
theorem s_X5_takeTrial {d : Nat} {σ : HS} {p : HS} (h : f_X5_takeTrial σ = some p) : hs_Spec (d + 1) yX5_takeTrial cX5_takeTrial 2 none [.ref 54, .ref 42] σ (none, p) := by
  refine hs_spec' (by decide +kernel) rfl (Nat.le_of_ble_eq_true rfl) ?_
  show PW RX5 cX5_takeTrial 2 (hs_zM (d + 1) none (none, p)) 0 [some (.ref 54), some (.ref 42)] [] σ
  rw [f_X5_takeTrial] at h
  refine pw_aload_n eX5_takeTrial_0 rfl ?_
  refine pw_getR (r := 57) eX5_takeTrial_1 fl_X5_18 ob_54 rfl ?_
  refine pw_iconst eX5_takeTrial_4 ki_0 ?_
  refine pw_aload_n eX5_takeTrial_5 rfl ?_
  refine pw_getR (r := 58) eX5_takeTrial_6 fl_X5_21 ob_54 rfl ?_
  refine pw_iconst eX5_takeTrial_9 ki_0 ?_
  refine pw_aload_n eX5_takeTrial_10 rfl ?_
  refine pw_getI eX5_takeTrial_11 fl_X5_68 ob_42 rfl ?_
  obtain ⟨σ1, g, h⟩ := hs_bind h
  refine pw_copy' eX5_takeTrial_14 mc_X5_136 ai_57 ai_58 g (Nat.le_of_ble_eq_true rfl) ?_
  exact pw_vret' eX5_takeTrial_17 h

def f_X5_takeFirst_45 (k : Int32 → Int32 → HS → Option (HS)) : Nat → Int32 → Int32 → Int32 → Int32 → HS → Option (HS)
  | 0, _, _, _, _, _ => none
  | n + 1, x2, x3, x4, x5, σ =>
    if (25 : Int32) < x5 then
      k x2 x3 σ
    else
      if ((x4 >>> (x5 &&& 31)) &&& 1) = 0 then
        f_X5_takeFirst_45 k n x2 x3 x4 (x5 + 1) σ
      else
        (f_X5_isPossible x2 x2 x5 x3 σ).bind fun q5 =>
        if q5.1 = 0 then
          f_X5_takeFirst_45 k n x2 x3 x4 (x5 + 1) q5.2
        else
          (f_X5_takeTrial q5.2).bind fun σ6 =>
          k x2 x3 σ6
set_option maxRecDepth 20000 in
theorem w_X5_takeFirst_45 {d : Nat} {p : HS} {k : Int32 → Int32 → HS → Option (HS)} (hk : ∀ (x2 : Int32) (x3 : Int32) (σ : HS), k x2 x3 σ = some p → PW RX5 cX5_takeFirst 6 (hs_zM (d + 19) none (none, p)) 89 [some (.ref 54), some (.ref 42), some (.int x2), some (.int x3), none, none] [] σ) : ∀ (n : Nat) (x2 : Int32) (x3 : Int32) (x4 : Int32) (x5 : Int32) (σ : HS), f_X5_takeFirst_45 k n x2 x3 x4 x5 σ = some p → PW RX5 cX5_takeFirst 6 (hs_zM (d + 19) none (none, p)) 45 [some (.ref 54), some (.ref 42), some (.int x2), some (.int x3), some (.int x4), some (.int x5)] [] σ := by
  intro n
  induction n with
  | zero =>
    intro x2 x3 x4 x5 σ h
    rw [f_X5_takeFirst_45] at h
    cases h
  | succ n ih =>
    intro x2 x3 x4 x5 σ h
    rw [f_X5_takeFirst_45] at h
    refine pw_iload eX5_takeFirst_45 rfl ?_
    refine pw_bipush eX5_takeFirst_47 kb_25 ?_
    refine pw_icmp_gt (tgt := 89) eX5_takeFirst_49 (by decide) (fun c => ?_) (fun c => ?_)
    · have h := hs_it c h
      exact pw_le (hk x2 x3 σ h) ⟨rfl, rfl, rfl, rfl, trivial⟩
    · have h := hs_ie c h
      refine pw_iload eX5_takeFirst_52 rfl ?_
      refine pw_iload eX5_takeFirst_54 rfl ?_
      refine pw_ishr eX5_takeFirst_56 ?_
      refine pw_iconst eX5_takeFirst_57 ki_1 ?_
      refine pw_iand eX5_takeFirst_58 ?_
      refine pw_if_eq (tgt := 83) eX5_takeFirst_59 (by decide) (fun c => ?_) (fun c => ?_)
      · have h := hs_it c h
        refine pw_iinc eX5_takeFirst_83 (by decide) rfl ki_1 rfl rfl ?_
        refine pw_goto (pc' := 45) eX5_takeFirst_86 (by decide) ?_
        exact ih x2 x3 x4 (x5 + 1) σ h
      · have h := hs_ie c h
        refine pw_aload_n eX5_takeFirst_62 rfl ?_
        refine pw_aload_n eX5_takeFirst_63 rfl ?_
        refine pw_iload_n eX5_takeFirst_64 rfl ?_
        refine pw_iload_n eX5_takeFirst_65 rfl ?_
        refine pw_iload eX5_takeFirst_66 rfl ?_
        refine pw_iload_n eX5_takeFirst_68 rfl ?_
        obtain ⟨q5, g, h⟩ := hs_bind h
        refine pw_mV5i eX5_takeFirst_69 mv_X5_114 ob_54 (s_X5_isPossible g) (Nat.le_of_ble_eq_true rfl) ?_
        refine pw_if_eq (tgt := 83) eX5_takeFirst_72 (by decide) (fun c => ?_) (fun c => ?_)
        · have h := hs_it c h
          refine pw_iinc eX5_takeFirst_83 (by decide) rfl ki_1 rfl rfl ?_
          refine pw_goto (pc' := 45) eX5_takeFirst_86 (by decide) ?_
          exact ih x2 x3 x4 (x5 + 1) q5.2 h
        · have h := hs_ie c h
          refine pw_aload_n eX5_takeFirst_75 rfl ?_
          refine pw_aload_n eX5_takeFirst_76 rfl ?_
          obtain ⟨σ6, g, h⟩ := hs_bind h
          refine pw_mV1v eX5_takeFirst_77 mv_X5_62 ob_54 (s_X5_takeTrial g) (Nat.le_of_ble_eq_true rfl) ?_
          refine pw_goto (pc' := 89) eX5_takeFirst_80 (by decide) ?_
          exact pw_le (hk x2 x3 σ6 h) ⟨rfl, rfl, rfl, rfl, trivial⟩
def f_X5_takeFirst_89 (rec : Int32 → HS → Option (HS)) (x2 : Int32) (x3 : Int32) (σ : HS) : Option (HS) :=
  (ldI (σ.1 58) 6 x2).bind fun v10 =>
  (stI σ 57 6 x2 v10).bind fun σ11 =>
  (f_X5_narrow x2 x2 x3 σ11).bind fun q12 =>
  rec (x2 + 1) q12.2
set_option maxRecDepth 20000 in
theorem w_X5_takeFirst_89 {d : Nat} {p : HS} {rec : Int32 → HS → Option (HS)} (hrec : ∀ (x2 : Int32) (σ : HS), rec x2 σ = some p → PW RX5 cX5_takeFirst 6 (hs_zM (d + 19) none (none, p)) 2 [some (.ref 54), some (.ref 42), some (.int x2), none, none, none] [] σ) : ∀ (x2 : Int32) (x3 : Int32) (σ : HS), f_X5_takeFirst_89 rec x2 x3 σ = some p → PW RX5 cX5_takeFirst 6 (hs_zM (d + 19) none (none, p)) 89 [some (.ref 54), some (.ref 42), some (.int x2), some (.int x3), none, none] [] σ := by
  intro x2 x3 σ h
  rw [f_X5_takeFirst_89] at h
  refine pw_aload_n eX5_takeFirst_89 rfl ?_
  refine pw_getR (r := 57) eX5_takeFirst_90 fl_X5_18 ob_54 rfl ?_
  refine pw_iload_n eX5_takeFirst_93 rfl ?_
  refine pw_aload_n eX5_takeFirst_94 rfl ?_
  refine pw_getR (r := 58) eX5_takeFirst_95 fl_X5_21 ob_54 rfl ?_
  refine pw_iload_n eX5_takeFirst_98 rfl ?_
  obtain ⟨v10, g, h⟩ := hs_bind h
  refine pw_iald' eX5_takeFirst_99 ai_58 g ?_
  obtain ⟨σ11, g, h⟩ := hs_bind h
  refine pw_iast' eX5_takeFirst_100 ai_57 g ?_
  refine pw_aload_n eX5_takeFirst_101 rfl ?_
  refine pw_aload_n eX5_takeFirst_102 rfl ?_
  refine pw_iload_n eX5_takeFirst_103 rfl ?_
  refine pw_iload_n eX5_takeFirst_104 rfl ?_
  refine pw_iload_n eX5_takeFirst_105 rfl ?_
  obtain ⟨q12, g, h⟩ := hs_bind h
  refine pw_mV4i eX5_takeFirst_106 mv_X5_118 ob_54 (s_X5_narrow g) (Nat.le_of_ble_eq_true rfl) ?_
  refine pw_pop eX5_takeFirst_109 rfl ?_
  refine pw_iinc eX5_takeFirst_110 (by decide) rfl ki_1 rfl rfl ?_
  refine pw_goto (pc' := 2) eX5_takeFirst_113 (by decide) ?_
  exact pw_le (hrec (x2 + 1) q12.2 h) ⟨rfl, rfl, rfl, trivial⟩
def f_X5_takeFirst_2 : Nat → Int32 → HS → Option (HS)
  | 0, _, _ => none
  | n + 1, x2, σ =>
    if (σ.1 42 7) ≤ x2 then
      some σ
    else
      (f_X8_pair x2 x2 σ).bind fun q1 =>
      (ldI (q1.2.1 55) 42 q1.1).bind fun v2 =>
      (ldI (q1.2.1 58) 6 x2).bind fun v3 =>
      (f_X5_upTo (v3 - 1) q1.2).bind fun q4 =>
      f_X5_takeFirst_45 (fun e7 e8 σ9 =>
        f_X5_takeFirst_89 (f_X5_takeFirst_2 n) e7 e8 σ9) FU x2 (((1 : Int32) <<< ((x2 + 1) &&& 31)) - 1) (v2 &&& q4.1) 0 q4.2
set_option maxRecDepth 20000 in
theorem w_X5_takeFirst_2 {d : Nat} {p : HS} : ∀ (n : Nat) (x2 : Int32) (σ : HS), f_X5_takeFirst_2 n x2 σ = some p → PW RX5 cX5_takeFirst 6 (hs_zM (d + 19) none (none, p)) 2 [some (.ref 54), some (.ref 42), some (.int x2), none, none, none] [] σ := by
  intro n
  induction n with
  | zero =>
    intro x2 σ h
    rw [f_X5_takeFirst_2] at h
    cases h
  | succ n ih =>
    intro x2 σ h
    rw [f_X5_takeFirst_2] at h
    refine pw_iload_n eX5_takeFirst_2 rfl ?_
    refine pw_aload_n eX5_takeFirst_3 rfl ?_
    refine pw_getI eX5_takeFirst_4 fl_X5_68 ob_42 rfl ?_
    refine pw_icmp_ge (tgt := 116) eX5_takeFirst_7 (by decide) (fun c => ?_) (fun c => ?_)
    · have h := hs_it c h
      exact pw_vret' eX5_takeFirst_116 h
    · have h := hs_ie c h
      refine pw_iconst eX5_takeFirst_10 ki_1 ?_
      refine pw_iload_n eX5_takeFirst_11 rfl ?_
      refine pw_iconst eX5_takeFirst_12 ki_1 ?_
      refine pw_iadd eX5_takeFirst_13 ?_
      refine pw_ishl eX5_takeFirst_14 ?_
      refine pw_iconst eX5_takeFirst_15 ki_1 ?_
      refine pw_isub eX5_takeFirst_16 ?_
      refine pw_istore_n eX5_takeFirst_17 rfl (by decide) rfl rfl ?_
      refine pw_aload_n eX5_takeFirst_18 rfl ?_
      refine pw_getR (r := 55) eX5_takeFirst_19 fl_X5_9 ob_54 rfl ?_
      refine pw_iload_n eX5_takeFirst_22 rfl ?_
      refine pw_iload_n eX5_takeFirst_23 rfl ?_
      obtain ⟨q1, g, h⟩ := hs_bind h
      refine pw_mN2i eX5_takeFirst_24 mn_X5_74 (s_X8_pair g) (Nat.le_of_ble_eq_true rfl) ?_
      obtain ⟨v2, g, h⟩ := hs_bind h
      refine pw_iald' eX5_takeFirst_27 ai_55 g ?_
      refine pw_aload_n eX5_takeFirst_28 rfl ?_
      refine pw_getR (r := 58) eX5_takeFirst_29 fl_X5_21 ob_54 rfl ?_
      refine pw_iload_n eX5_takeFirst_32 rfl ?_
      obtain ⟨v3, g, h⟩ := hs_bind h
      refine pw_iald' eX5_takeFirst_33 ai_58 g ?_
      refine pw_iconst eX5_takeFirst_34 ki_1 ?_
      refine pw_isub eX5_takeFirst_35 ?_
      obtain ⟨q4, g, h⟩ := hs_bind h
      refine pw_mS1i eX5_takeFirst_36 ms_X5_107 (s_X5_upTo g) (Nat.le_of_ble_eq_true rfl) ?_
      refine pw_iand eX5_takeFirst_39 ?_
      refine pw_istore eX5_takeFirst_40 (by decide) rfl rfl ?_
      refine pw_iconst eX5_takeFirst_42 ki_0 ?_
      refine pw_istore eX5_takeFirst_43 (by decide) rfl rfl ?_
      refine w_X5_takeFirst_45 (fun e7 e8 σ9 h => ?_) FU x2 (((1 : Int32) <<< ((x2 + 1) &&& 31)) - 1) (v2 &&& q4.1) 0 q4.2 h
      exact w_X5_takeFirst_89 ih e7 e8 σ9 h
def f_X5_takeFirst (σ : HS) : Option (HS) :=
  f_X5_takeFirst_2 FU 0 σ
set_option maxRecDepth 20000 in
theorem s_X5_takeFirst {d : Nat} {σ : HS} {p : HS} (h : f_X5_takeFirst σ = some p) : hs_Spec (d + 19) yX5_takeFirst cX5_takeFirst 6 none [.ref 54, .ref 42] σ (none, p) := by
  refine hs_spec' (by decide +kernel) rfl (Nat.le_of_ble_eq_true rfl) ?_
  show PW RX5 cX5_takeFirst 6 (hs_zM (d + 19) none (none, p)) 0 [some (.ref 54), some (.ref 42), none, none, none, none] [] σ
  rw [f_X5_takeFirst] at h
  refine pw_iconst eX5_takeFirst_0 ki_0 ?_
  refine pw_istore_n eX5_takeFirst_1 rfl (by decide) rfl rfl ?_
  exact w_X5_takeFirst_2 FU 0 σ h

def f_X5_learn_68 (σ : HS) : Option (HS) :=
  (f_X5_takeTrial σ).bind fun σ5 =>
  (f_X5_takeFirst σ5).bind fun σ6 =>
  some (sI σ6 54 6 1)
set_option maxRecDepth 20000 in
theorem w_X5_learn_68 {d : Nat} {p : HS} : ∀ (σ : HS), f_X5_learn_68 σ = some p → PW RX5 cX5_learn 3 (hs_zM (d + 20) none (none, p)) 68 [some (.ref 54), some (.ref 42), none] [] σ := by
  intro σ h
  rw [f_X5_learn_68] at h
  refine pw_aload_n eX5_learn_68 rfl ?_
  refine pw_aload_n eX5_learn_69 rfl ?_
  obtain ⟨σ5, g, h⟩ := hs_bind h
  refine pw_mV1v eX5_learn_70 mv_X5_62 ob_54 (s_X5_takeTrial g) (Nat.le_of_ble_eq_true rfl) ?_
  refine pw_aload_n eX5_learn_73 rfl ?_
  refine pw_aload_n eX5_learn_74 rfl ?_
  obtain ⟨σ6, g, h⟩ := hs_bind h
  refine pw_mV1v eX5_learn_75 mv_X5_65 ob_54 (s_X5_takeFirst g) (Nat.le_of_ble_eq_true rfl) ?_
  refine pw_aload_n eX5_learn_78 rfl ?_
  refine pw_iconst eX5_learn_79 ki_1 ?_
  refine pw_putZ eX5_learn_80 fw_X5_31 ob_54 rfl narrow_b1 rfl ?_
  exact pw_vret' eX5_learn_83 h
def f_X5_learn_38 : Nat → Int32 → HS → Option (HS)
  | 0, _, _ => none
  | n + 1, x2, σ =>
    if (30 : Int32) < x2 then
      f_X5_learn_68 σ
    else
      (f_X5_hasPlan σ).bind fun q7 =>
      if q7.1 = 0 then
        f_X5_learn_38 n (x2 + 1) (sI q7.2 54 5 ((q7.2.1 54 5) + 1))
      else
        f_X5_learn_68 q7.2
set_option maxRecDepth 20000 in
theorem w_X5_learn_38 {d : Nat} {p : HS} : ∀ (n : Nat) (x2 : Int32) (σ : HS), f_X5_learn_38 n x2 σ = some p → PW RX5 cX5_learn 3 (hs_zM (d + 20) none (none, p)) 38 [some (.ref 54), some (.ref 42), some (.int x2)] [] σ := by
  intro n
  induction n with
  | zero =>
    intro x2 σ h
    rw [f_X5_learn_38] at h
    cases h
  | succ n ih =>
    intro x2 σ h
    rw [f_X5_learn_38] at h
    refine pw_iload_n eX5_learn_38 rfl ?_
    refine pw_bipush eX5_learn_39 kb_30 ?_
    refine pw_icmp_gt (tgt := 68) eX5_learn_41 (by decide) (fun c => ?_) (fun c => ?_)
    · have h := hs_it c h
      exact pw_le (w_X5_learn_68 σ h) ⟨rfl, rfl, trivial⟩
    · have h := hs_ie c h
      refine pw_aload_n eX5_learn_44 rfl ?_
      refine pw_aload_n eX5_learn_45 rfl ?_
      obtain ⟨q7, g, h⟩ := hs_bind h
      refine pw_mV1i eX5_learn_46 mv_X5_58 ob_54 (s_X5_hasPlan g) (Nat.le_of_ble_eq_true rfl) ?_
      refine pw_if_ne (tgt := 68) eX5_learn_49 (by decide) (fun c => ?_) (fun c => ?_)
      · have h := hs_ie c h
        exact pw_le (w_X5_learn_68 q7.2 h) ⟨rfl, rfl, trivial⟩
      · have h := hs_it c h
        refine pw_aload_n eX5_learn_52 rfl ?_
        refine pw_dup eX5_learn_53 rfl ?_
        refine pw_getI eX5_learn_54 fl_X5_54 ob_54 rfl ?_
        refine pw_iconst eX5_learn_57 ki_1 ?_
        refine pw_iadd eX5_learn_58 ?_
        refine pw_putI eX5_learn_59 fw_X5_54 ob_54 rfl ?_
        refine pw_iinc eX5_learn_62 (by decide) rfl ki_1 rfl rfl ?_
        refine pw_goto (pc' := 38) eX5_learn_65 (by decide) ?_
        exact ih (x2 + 1) (sI q7.2 54 5 ((q7.2.1 54 5) + 1)) h
def f_X5_learn (σ : HS) : Option (HS) :=
  if (σ.1 54 6) = 0 then
    (f_X5_measureGaps σ).bind fun σ1 =>
    (f_X0_leastLength σ1).bind fun q2 =>
    (f_X3_leastLength q2.2).bind fun q3 =>
    (f_J9_max_7cf53 q2.1 q3.1 q3.2).bind fun q4 =>
    f_X5_learn_38 FU 0 (sI q4.2 54 5 q4.1)
  else
    some σ
set_option maxRecDepth 20000 in
theorem s_X5_learn {d : Nat} {σ : HS} {p : HS} (h : f_X5_learn σ = some p) : hs_Spec (d + 20) yX5_learn cX5_learn 3 none [.ref 54, .ref 42] σ (none, p) := by
  refine hs_spec' (by decide +kernel) rfl (Nat.le_of_ble_eq_true rfl) ?_
  show PW RX5 cX5_learn 3 (hs_zM (d + 20) none (none, p)) 0 [some (.ref 54), some (.ref 42), none] [] σ
  rw [f_X5_learn] at h
  refine pw_aload_n eX5_learn_0 rfl ?_
  refine pw_getI eX5_learn_1 fl_X5_31 ob_54 rfl ?_
  refine pw_if_eq (tgt := 8) eX5_learn_4 (by decide) (fun c => ?_) (fun c => ?_)
  · have h := hs_it c h
    refine pw_aload_n eX5_learn_8 rfl ?_
    refine pw_aload_n eX5_learn_9 rfl ?_
    obtain ⟨σ1, g, h⟩ := hs_bind h
    refine pw_mV1v eX5_learn_10 mv_X5_35 ob_54 (s_X5_measureGaps g) (Nat.le_of_ble_eq_true rfl) ?_
    refine pw_aload_n eX5_learn_13 rfl ?_
    refine pw_aload_n eX5_learn_14 rfl ?_
    obtain ⟨q2, g, h⟩ := hs_bind h
    refine pw_mV0i eX5_learn_15 mv_X5_39 ob_42 (s_X0_leastLength g) (Nat.le_of_ble_eq_true rfl) ?_
    refine pw_aload_n eX5_learn_18 rfl ?_
    refine pw_getR (r := 59) eX5_learn_19 fl_X5_27 ob_54 rfl ?_
    refine pw_aload_n eX5_learn_22 rfl ?_
    refine pw_aload_n eX5_learn_23 rfl ?_
    refine pw_getR (r := 56) eX5_learn_24 fl_X5_15 ob_54 rfl ?_
    obtain ⟨q3, g, h⟩ := hs_bind h
    refine pw_mV2i eX5_learn_27 mv_X5_45 ob_59 (s_X3_leastLength g) (Nat.le_of_ble_eq_true rfl) ?_
    obtain ⟨q4, g, h⟩ := hs_bind h
    refine pw_mS2i eX5_learn_30 ms_X5_48 (s_J9_max_7cf53 g) (Nat.le_of_ble_eq_true rfl) ?_
    refine pw_putI eX5_learn_33 fw_X5_54 ob_54 rfl ?_
    refine pw_iconst eX5_learn_36 ki_0 ?_
    refine pw_istore_n eX5_learn_37 rfl (by decide) rfl rfl ?_
    exact w_X5_learn_38 FU 0 (sI q4.2 54 5 q4.1) h
  · have h := hs_ie c h
    exact pw_vret' eX5_learn_7 h
