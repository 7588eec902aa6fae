def f_X0_turnsHeld_4 : Nat → Int32 → Int32 → Int32 → HS → Option (Int32 × HS)
  | 0, _, _, _, _ => none
  | n + 1, x0, x1, x2, σ =>
    if (4 : Int32) ≤ x2 then
      some (x1, σ)
    else
      (f_X8_passed x0 x2 σ).bind fun q1 =>
      if q1.1 = 0 then
        f_X0_turnsHeld_4 n x0 x1 (x2 + 1) q1.2
      else
        f_X0_turnsHeld_4 n x0 (x2 + 1) (x2 + 1) q1.2
set_option maxRecDepth 20000 in
theorem w_X0_turnsHeld_4 {d : Nat} {p : Int32 × HS} : ∀ (n : Nat) (x0 : Int32) (x1 : Int32) (x2 : Int32) (σ : HS), f_X0_turnsHeld_4 n x0 x1 x2 σ = some p → PW RX0 cX0_turnsHeld 3 (hs_zM (d + 2) (some .int) (some (.int p.1), p.2)) 4 [some (.int x0), some (.int x1), some (.int x2)] [] σ := by
  intro n
  induction n with
  | zero =>
    intro x0 x1 x2 σ h
    rw [f_X0_turnsHeld_4] at h
    cases h
  | succ n ih =>
    intro x0 x1 x2 σ h
    rw [f_X0_turnsHeld_4] at h
    refine pw_iload_n eX0_turnsHeld_4 rfl ?_
    refine pw_iconst eX0_turnsHeld_5 ki_4 ?_
    refine pw_icmp_ge (tgt := 27) eX0_turnsHeld_6 (by decide) (fun c => ?_) (fun c => ?_)
    · have h := hs_it c h
      refine pw_iload_n eX0_turnsHeld_27 rfl ?_
      exact pw_iret' eX0_turnsHeld_28 h
    · have h := hs_ie c h
      refine pw_iload_n eX0_turnsHeld_9 rfl ?_
      refine pw_iload_n eX0_turnsHeld_10 rfl ?_
      obtain ⟨q1, g, h⟩ := hs_bind h
      refine pw_mN2i eX0_turnsHeld_11 mn_X0_98 (s_X8_passed g) (Nat.le_of_ble_eq_true rfl) ?_
      refine pw_if_eq (tgt := 21) eX0_turnsHeld_14 (by decide) (fun c => ?_) (fun c => ?_)
      · have h := hs_it c h
        refine pw_iinc eX0_turnsHeld_21 (by decide) rfl ki_1 rfl rfl ?_
        refine pw_goto (pc' := 4) eX0_turnsHeld_24 (by decide) ?_
        exact ih x0 x1 (x2 + 1) q1.2 h
      · have h := hs_ie c h
        refine pw_iload_n eX0_turnsHeld_17 rfl ?_
        refine pw_iconst eX0_turnsHeld_18 ki_1 ?_
        refine pw_iadd eX0_turnsHeld_19 ?_
        refine pw_istore_n eX0_turnsHeld_20 rfl (by decide) rfl rfl ?_
        refine pw_iinc eX0_turnsHeld_21 (by decide) rfl ki_1 rfl rfl ?_
        refine pw_goto (pc' := 4) eX0_turnsHeld_24 (by decide) ?_
        exact ih x0 (x2 + 1) (x2 + 1) q1.2 h
def f_X0_turnsHeld (x0 : Int32) (σ : HS) : Option (Int32 × HS) :=
  f_X0_turnsHeld_4 FU x0 0 0 σ
set_option maxRecDepth 20000 in
theorem s_X0_turnsHeld {d : Nat} {x0 : Int32} {σ : HS} {p : Int32 × HS} (h : f_X0_turnsHeld x0 σ = some p) : hs_Spec (d + 2) yX0_turnsHeld cX0_turnsHeld 3 (some .int) [.int x0] σ (some (.int p.1), p.2) := by
  refine hs_spec' (by decide +kernel) rfl (Nat.le_of_ble_eq_true rfl) ?_
  show PW RX0 cX0_turnsHeld 3 (hs_zM (d + 2) (some .int) (some (.int p.1), p.2)) 0 [some (.int x0), none, none] [] σ
  rw [f_X0_turnsHeld] at h
  refine pw_iconst eX0_turnsHeld_0 ki_0 ?_
  refine pw_istore_n eX0_turnsHeld_1 rfl (by decide) rfl rfl ?_
  refine pw_iconst eX0_turnsHeld_2 ki_0 ?_
  refine pw_istore_n eX0_turnsHeld_3 rfl (by decide) rfl rfl ?_
  exact w_X0_turnsHeld_4 FU x0 0 0 σ h

def f_X0_clashOf_27 (rec : Int32 → Int32 → Int32 → Int32 → HS → Option (Int32 × HS)) (x0 : Int32) (x1 : Int32) (x2 : Int32) (x3 : Int32) (σ : HS) : Option (Int32 × HS) :=
  (f_X8_passed x1 x3 σ).bind fun q2 =>
  if (x0 &&& q2.1) = 0 then
    rec x0 x1 x2 (x3 + 1) q2.2
  else
    rec x0 x1 (x2 ||| ((1 : Int32) <<< (((3 : Int32) - x3) &&& 31))) (x3 + 1) q2.2
set_option maxRecDepth 20000 in
theorem w_X0_clashOf_27 {d : Nat} {p : Int32 × HS} {rec : Int32 → Int32 → Int32 → Int32 → HS → Option (Int32 × HS)} (hrec : ∀ (x0 : Int32) (x1 : Int32) (x2 : Int32) (x3 : Int32) (σ : HS), rec x0 x1 x2 x3 σ = some p → PW RX0 cX0_clashOf 4 (hs_zM (d + 2) (some .int) (some (.int p.1), p.2)) 4 [some (.int x0), some (.int x1), some (.int x2), some (.int x3)] [] σ) : ∀ (x0 : Int32) (x1 : Int32) (x2 : Int32) (x3 : Int32) (σ : HS), f_X0_clashOf_27 rec x0 x1 x2 x3 σ = some p → PW RX0 cX0_clashOf 4 (hs_zM (d + 2) (some .int) (some (.int p.1), p.2)) 27 [some (.int x0), some (.int x1), some (.int x2), some (.int x3)] [] σ := by
  intro x0 x1 x2 x3 σ h
  rw [f_X0_clashOf_27] at h
  refine pw_iload_n eX0_clashOf_27 rfl ?_
  refine pw_iload_n eX0_clashOf_28 rfl ?_
  refine pw_iload_n eX0_clashOf_29 rfl ?_
  obtain ⟨q2, g, h⟩ := hs_bind h
  refine pw_mN2i eX0_clashOf_30 mn_X0_98 (s_X8_passed g) (Nat.le_of_ble_eq_true rfl) ?_
  refine pw_iand eX0_clashOf_33 ?_
  refine pw_if_eq (tgt := 45) eX0_clashOf_34 (by decide) (fun c => ?_) (fun c => ?_)
  · have h := hs_it c h
    refine pw_iinc eX0_clashOf_45 (by decide) rfl ki_1 rfl rfl ?_
    refine pw_goto (pc' := 4) eX0_clashOf_48 (by decide) ?_
    exact hrec x0 x1 x2 (x3 + 1) q2.2 h
  · have h := hs_ie c h
    refine pw_iload_n eX0_clashOf_37 rfl ?_
    refine pw_iconst eX0_clashOf_38 ki_1 ?_
    refine pw_iconst eX0_clashOf_39 ki_3 ?_
    refine pw_iload_n eX0_clashOf_40 rfl ?_
    refine pw_isub eX0_clashOf_41 ?_
    refine pw_ishl eX0_clashOf_42 ?_
    refine pw_ior eX0_clashOf_43 ?_
    refine pw_istore_n eX0_clashOf_44 rfl (by decide) rfl rfl ?_
    refine pw_iinc eX0_clashOf_45 (by decide) rfl ki_1 rfl rfl ?_
    refine pw_goto (pc' := 4) eX0_clashOf_48 (by decide) ?_
    exact hrec x0 x1 (x2 ||| ((1 : Int32) <<< (((3 : Int32) - x3) &&& 31))) (x3 + 1) q2.2 h
def f_X0_clashOf_4 : Nat → Int32 → Int32 → Int32 → Int32 → HS → Option (Int32 × HS)
  | 0, _, _, _, _, _ => none
  | n + 1, x0, x1, x2, x3, σ =>
    if (4 : Int32) ≤ x3 then
      some (x2, σ)
    else
      (f_X8_passed x0 x3 σ).bind fun q1 =>
      if (q1.1 &&& x1) = 0 then
        f_X0_clashOf_27 (f_X0_clashOf_4 n) x0 x1 x2 x3 q1.2
      else
        f_X0_clashOf_27 (f_X0_clashOf_4 n) x0 x1 (x2 ||| ((1 : Int32) <<< (((3 : Int32) + x3) &&& 31))) x3 q1.2
set_option maxRecDepth 20000 in
theorem w_X0_clashOf_4 {d : Nat} {p : Int32 × HS} : ∀ (n : Nat) (x0 : Int32) (x1 : Int32) (x2 : Int32) (x3 : Int32) (σ : HS), f_X0_clashOf_4 n x0 x1 x2 x3 σ = some p → PW RX0 cX0_clashOf 4 (hs_zM (d + 2) (some .int) (some (.int p.1), p.2)) 4 [some (.int x0), some (.int x1), some (.int x2), some (.int x3)] [] σ := by
  intro n
  induction n with
  | zero =>
    intro x0 x1 x2 x3 σ h
    rw [f_X0_clashOf_4] at h
    cases h
  | succ n ih =>
    intro x0 x1 x2 x3 σ h
    rw [f_X0_clashOf_4] at h
    refine pw_iload_n eX0_clashOf_4 rfl ?_
    refine pw_iconst eX0_clashOf_5 ki_4 ?_
    refine pw_icmp_ge (tgt := 51) eX0_clashOf_6 (by decide) (fun c => ?_) (fun c => ?_)
    · have h := hs_it c h
      refine pw_iload_n eX0_clashOf_51 rfl ?_
      exact pw_iret' eX0_clashOf_52 h
    · have h := hs_ie c h
      refine pw_iload_n eX0_clashOf_9 rfl ?_
      refine pw_iload_n eX0_clashOf_10 rfl ?_
      obtain ⟨q1, g, h⟩ := hs_bind h
      refine pw_mN2i eX0_clashOf_11 mn_X0_98 (s_X8_passed g) (Nat.le_of_ble_eq_true rfl) ?_
      refine pw_iload_n eX0_clashOf_14 rfl ?_
      refine pw_iand eX0_clashOf_15 ?_
      refine pw_if_eq (tgt := 27) eX0_clashOf_16 (by decide) (fun c => ?_) (fun c => ?_)
      · have h := hs_it c h
        exact w_X0_clashOf_27 ih x0 x1 x2 x3 q1.2 h
      · have h := hs_ie c h
        refine pw_iload_n eX0_clashOf_19 rfl ?_
        refine pw_iconst eX0_clashOf_20 ki_1 ?_
        refine pw_iconst eX0_clashOf_21 ki_3 ?_
        refine pw_iload_n eX0_clashOf_22 rfl ?_
        refine pw_iadd eX0_clashOf_23 ?_
        refine pw_ishl eX0_clashOf_24 ?_
        refine pw_ior eX0_clashOf_25 ?_
        refine pw_istore_n eX0_clashOf_26 rfl (by decide) rfl rfl ?_
        exact w_X0_clashOf_27 ih x0 x1 (x2 ||| ((1 : Int32) <<< (((3 : Int32) + x3) &&& 31))) x3 q1.2 h
def f_X0_clashOf (x0 : Int32) (x1 : Int32) (σ : HS) : Option (Int32 × HS) :=
  f_X0_clashOf_4 FU x0 x1 0 0 σ
set_option maxRecDepth 20000 in
theorem s_X0_clashOf {d : Nat} {x0 : Int32} {x1 : Int32} {σ : HS} {p : Int32 × HS} (h : f_X0_clashOf x0 x1 σ = some p) : hs_Spec (d + 2) yX0_clashOf cX0_clashOf 4 (some .int) [.int x0, .int x1] σ (some (.int p.1), p.2) := by
  refine hs_spec' (by decide +kernel) rfl (Nat.le_of_ble_eq_true rfl) ?_
  show PW RX0 cX0_clashOf 4 (hs_zM (d + 2) (some .int) (some (.int p.1), p.2)) 0 [some (.int x0), some (.int x1), none, none] [] σ
  rw [f_X0_clashOf] at h
  refine pw_iconst eX0_clashOf_0 ki_0 ?_
  refine pw_istore_n eX0_clashOf_1 rfl (by decide) rfl rfl ?_
  refine pw_iconst eX0_clashOf_2 ki_0 ?_
  refine pw_istore_n eX0_clashOf_3 rfl (by decide) rfl rfl ?_
  exact w_X0_clashOf_4 FU x0 x1 0 0 σ h

def f_X0_measureWays_57 (k : Int32 → Int32 → HS → Option (HS)) : Nat → Int32 → Int32 → Int32 → HS → Option (HS)
  | 0, _, _, _, _ => none
  | n + 1, x1, x2, x3, σ =>
    if (σ.1 42 7) ≤ x3 then
      k x1 x2 σ
    else
      (f_X8_pair x2 x3 σ).bind fun q1 =>
      (ldI (q1.2.1 47) 36 q1.1).bind fun v2 =>
      if v2 = (-1) then
        f_X0_measureWays_57 k n x1 x2 (x3 + 1) q1.2
      else
        (ldI (q1.2.1 45) 6 x3).bind fun v3 =>
        (ldI (q1.2.1 45) 6 x2).bind fun v4 =>
        (f_J9_max_7cf53 v3 (v2 + v4) q1.2).bind fun q5 =>
        (stI q5.2 45 6 x3 q5.1).bind fun σ6 =>
        (ldI (σ6.1 46) 6 x2).bind fun v7 =>
        (ldI (σ6.1 46) 6 x3).bind fun v8 =>
        (f_J9_max_7cf53 v7 (v2 + v8) σ6).bind fun q9 =>
        (stI q9.2 46 6 x2 q9.1).bind fun σ10 =>
        f_X0_measureWays_57 k n x1 x2 (x3 + 1) σ10
set_option maxRecDepth 20000 in
theorem w_X0_measureWays_57 {d : Nat} {p : HS} {k : Int32 → Int32 → HS → Option (HS)} (hk : ∀ (x1 : Int32) (x2 : Int32) (σ : HS), k x1 x2 σ = some p → PW RX0 cX0_measureWays 5 (hs_zM (d + 2) none (none, p)) 137 [some (.ref 42), some (.int x1), some (.int x2), none, none] [] σ) : ∀ (n : Nat) (x1 : Int32) (x2 : Int32) (x3 : Int32) (σ : HS), f_X0_measureWays_57 k n x1 x2 x3 σ = some p → PW RX0 cX0_measureWays 5 (hs_zM (d + 2) none (none, p)) 57 [some (.ref 42), some (.int x1), some (.int x2), some (.int x3), none] [] σ := by
  intro n
  induction n with
  | zero =>
    intro x1 x2 x3 σ h
    rw [f_X0_measureWays_57] at h
    cases h
  | succ n ih =>
    intro x1 x2 x3 σ h
    rw [f_X0_measureWays_57] at h
    refine pw_iload_n eX0_measureWays_57 rfl ?_
    refine pw_aload_n eX0_measureWays_58 rfl ?_
    refine pw_getI eX0_measureWays_59 fl_X0_43 ob_42 rfl ?_
    refine pw_icmp_ge (tgt := 137) eX0_measureWays_62 (by decide) (fun c => ?_) (fun c => ?_)
    · have h := hs_it c h
      exact pw_le (hk x1 x2 σ h) ⟨rfl, rfl, rfl, trivial⟩
    · have h := hs_ie c h
      refine pw_aload_n eX0_measureWays_65 rfl ?_
      refine pw_getR (r := 47) eX0_measureWays_66 fl_X0_24 ob_42 rfl ?_
      refine pw_iload_n eX0_measureWays_69 rfl ?_
      refine pw_iload_n eX0_measureWays_70 rfl ?_
      obtain ⟨q1, g, h⟩ := hs_bind h
      refine pw_mN2i eX0_measureWays_71 mn_X0_67 (s_X8_pair g) (Nat.le_of_ble_eq_true rfl) ?_
      obtain ⟨v2, g, h⟩ := hs_bind h
      refine pw_iald' eX0_measureWays_74 ai_47 g ?_
      refine pw_istore eX0_measureWays_75 (by decide) rfl rfl ?_
      refine pw_iload eX0_measureWays_77 rfl ?_
      refine pw_iconst eX0_measureWays_79 ki_m1 ?_
      refine pw_icmp_eq (tgt := 131) eX0_measureWays_80 (by decide) (fun c => ?_) (fun c => ?_)
      · have h := hs_it c h
        refine pw_iinc eX0_measureWays_131 (by decide) rfl ki_1 rfl rfl ?_
        refine pw_goto (pc' := 57) eX0_measureWays_134 (by decide) ?_
        exact pw_le (ih x1 x2 (x3 + 1) q1.2 h) ⟨rfl, rfl, rfl, rfl, trivial⟩
      · have h := hs_ie c h
        refine pw_aload_n eX0_measureWays_83 rfl ?_
        refine pw_getR (r := 45) eX0_measureWays_84 fl_X0_18 ob_42 rfl ?_
        refine pw_iload_n eX0_measureWays_87 rfl ?_
        refine pw_aload_n eX0_measureWays_88 rfl ?_
        refine pw_getR (r := 45) eX0_measureWays_89 fl_X0_18 ob_42 rfl ?_
        refine pw_iload_n eX0_measureWays_92 rfl ?_
        obtain ⟨v3, g, h⟩ := hs_bind h
        refine pw_iald' eX0_measureWays_93 ai_45 g ?_
        refine pw_iload eX0_measureWays_94 rfl ?_
        refine pw_aload_n eX0_measureWays_96 rfl ?_
        refine pw_getR (r := 45) eX0_measureWays_97 fl_X0_18 ob_42 rfl ?_
        refine pw_iload_n eX0_measureWays_100 rfl ?_
        obtain ⟨v4, g, h⟩ := hs_bind h
        refine pw_iald' eX0_measureWays_101 ai_45 g ?_
        refine pw_iadd eX0_measureWays_102 ?_
        obtain ⟨q5, g, h⟩ := hs_bind h
        refine pw_mS2i eX0_measureWays_103 ms_X0_61 (s_J9_max_7cf53 g) (Nat.le_of_ble_eq_true rfl) ?_
        obtain ⟨σ6, g, h⟩ := hs_bind h
        refine pw_iast' eX0_measureWays_106 ai_45 g ?_
        refine pw_aload_n eX0_measureWays_107 rfl ?_
        refine pw_getR (r := 46) eX0_measureWays_108 fl_X0_21 ob_42 rfl ?_
        refine pw_iload_n eX0_measureWays_111 rfl ?_
        refine pw_aload_n eX0_measureWays_112 rfl ?_
        refine pw_getR (r := 46) eX0_measureWays_113 fl_X0_21 ob_42 rfl ?_
        refine pw_iload_n eX0_measureWays_116 rfl ?_
        obtain ⟨v7, g, h⟩ := hs_bind h
        refine pw_iald' eX0_measureWays_117 ai_46 g ?_
        refine pw_iload eX0_measureWays_118 rfl ?_
        refine pw_aload_n eX0_measureWays_120 rfl ?_
        refine pw_getR (r := 46) eX0_measureWays_121 fl_X0_21 ob_42 rfl ?_
        refine pw_iload_n eX0_measureWays_124 rfl ?_
        obtain ⟨v8, g, h⟩ := hs_bind h
        refine pw_iald' eX0_measureWays_125 ai_46 g ?_
        refine pw_iadd eX0_measureWays_126 ?_
        obtain ⟨q9, g, h⟩ := hs_bind h
        refine pw_mS2i eX0_measureWays_127 ms_X0_61 (s_J9_max_7cf53 g) (Nat.le_of_ble_eq_true rfl) ?_
        obtain ⟨σ10, g, h⟩ := hs_bind h
        refine pw_iast' eX0_measureWays_130 ai_46 g ?_
        refine pw_iinc eX0_measureWays_131 (by decide) rfl ki_1 rfl rfl ?_
        refine pw_goto (pc' := 57) eX0_measureWays_134 (by decide) ?_
        exact pw_le (ih x1 x2 (x3 + 1) σ10 h) ⟨rfl, rfl, rfl, rfl, trivial⟩
def f_X0_measureWays_47 (k : Int32 → HS → Option (HS)) : Nat → Int32 → Int32 → HS → Option (HS)
  | 0, _, _, _ => none
  | n + 1, x1, x2, σ =>
    if (σ.1 42 7) ≤ x2 then
      k x1 σ
    else
      f_X0_measureWays_57 (fun e11 e12 σ13 =>
        f_X0_measureWays_47 k n e11 (e12 + 1) σ13) FU x1 x2 0 σ
set_option maxRecDepth 20000 in
theorem w_X0_measureWays_47 {d : Nat} {p : HS} {k : Int32 → HS → Option (HS)} (hk : ∀ (x1 : Int32) (σ : HS), k x1 σ = some p → PW RX0 cX0_measureWays 5 (hs_zM (d + 2) none (none, p)) 143 [some (.ref 42), some (.int x1), none, none, none] [] σ) : ∀ (n : Nat) (x1 : Int32) (x2 : Int32) (σ : HS), f_X0_measureWays_47 k n x1 x2 σ = some p → PW RX0 cX0_measureWays 5 (hs_zM (d + 2) none (none, p)) 47 [some (.ref 42), some (.int x1), some (.int x2), none, none] [] σ := by
  intro n
  induction n with
  | zero =>
    intro x1 x2 σ h
    rw [f_X0_measureWays_47] at h
    cases h
  | succ n ih =>
    intro x1 x2 σ h
    rw [f_X0_measureWays_47] at h
    refine pw_iload_n eX0_measureWays_47 rfl ?_
    refine pw_aload_n eX0_measureWays_48 rfl ?_
    refine pw_getI eX0_measureWays_49 fl_X0_43 ob_42 rfl ?_
    refine pw_icmp_ge (tgt := 143) eX0_measureWays_52 (by decide) (fun c => ?_) (fun c => ?_)
    · have h := hs_it c h
      exact pw_le (hk x1 σ h) ⟨rfl, rfl, trivial⟩
    · have h := hs_ie c h
      refine pw_iconst eX0_measureWays_55 ki_0 ?_
      refine pw_istore_n eX0_measureWays_56 rfl (by decide) rfl rfl ?_
      refine w_X0_measureWays_57 (fun e11 e12 σ13 h => ?_) FU x1 x2 0 σ h
      refine pw_iinc eX0_measureWays_137 (by decide) rfl ki_1 rfl rfl ?_
      refine pw_goto (pc' := 47) eX0_measureWays_140 (by decide) ?_
      exact ih e11 (e12 + 1) σ13 h
def f_X0_measureWays_37 : Nat → Int32 → HS → Option (HS)
  | 0, _, _ => none
  | n + 1, x1, σ =>
    if (σ.1 42 7) ≤ x1 then
      some σ
    else
      f_X0_measureWays_47 (fun e14 σ15 =>
        f_X0_measureWays_37 n (e14 + 1) σ15) FU x1 0 σ
set_option maxRecDepth 20000 in
theorem w_X0_measureWays_37 {d : Nat} {p : HS} : ∀ (n : Nat) (x1 : Int32) (σ : HS), f_X0_measureWays_37 n x1 σ = some p → PW RX0 cX0_measureWays 5 (hs_zM (d + 2) none (none, p)) 37 [some (.ref 42), some (.int x1), none, none, none] [] σ := by
  intro n
  induction n with
  | zero =>
    intro x1 σ h
    rw [f_X0_measureWays_37] at h
    cases h
  | succ n ih =>
    intro x1 σ h
    rw [f_X0_measureWays_37] at h
    refine pw_iload_n eX0_measureWays_37 rfl ?_
    refine pw_aload_n eX0_measureWays_38 rfl ?_
    refine pw_getI eX0_measureWays_39 fl_X0_43 ob_42 rfl ?_
    refine pw_icmp_ge (tgt := 149) eX0_measureWays_42 (by decide) (fun c => ?_) (fun c => ?_)
    · have h := hs_it c h
      exact pw_vret' eX0_measureWays_149 h
    · have h := hs_ie c h
      refine pw_iconst eX0_measureWays_45 ki_0 ?_
      refine pw_istore_n eX0_measureWays_46 rfl (by decide) rfl rfl ?_
      refine w_X0_measureWays_47 (fun e14 σ15 h => ?_) FU x1 0 σ h
      refine pw_iinc eX0_measureWays_143 (by decide) rfl ki_1 rfl rfl ?_
      refine pw_goto (pc' := 37) eX0_measureWays_146 (by decide) ?_
      exact ih (e14 + 1) σ15 h
def f_X0_measureWays_2 : Nat → Int32 → HS → Option (HS)
  | 0, _, _ => none
  | n + 1, x1, σ =>
    if (σ.1 42 7) ≤ x1 then
      f_X0_measureWays_37 FU 0 σ
    else
      (ldI (σ.1 44) 6 x1).bind fun v16 =>
      (stI σ 45 6 x1 v16).bind fun σ17 =>
      (stI σ17 46 6 x1 0).bind fun σ18 =>
      f_X0_measureWays_2 n (x1 + 1) σ18
set_option maxRecDepth 20000 in
theorem w_X0_measureWays_2 {d : Nat} {p : HS} : ∀ (n : Nat) (x1 : Int32) (σ : HS), f_X0_measureWays_2 n x1 σ = some p → PW RX0 cX0_measureWays 5 (hs_zM (d + 2) none (none, p)) 2 [some (.ref 42), some (.int x1), none, none, none] [] σ := by
  intro n
  induction n with
  | zero =>
    intro x1 σ h
    rw [f_X0_measureWays_2] at h
    cases h
  | succ n ih =>
    intro x1 σ h
    rw [f_X0_measureWays_2] at h
    refine pw_iload_n eX0_measureWays_2 rfl ?_
    refine pw_aload_n eX0_measureWays_3 rfl ?_
    refine pw_getI eX0_measureWays_4 fl_X0_43 ob_42 rfl ?_
    refine pw_icmp_ge (tgt := 35) eX0_measureWays_7 (by decide) (fun c => ?_) (fun c => ?_)
    · have h := hs_it c h
      refine pw_iconst eX0_measureWays_35 ki_0 ?_
      refine pw_istore_n eX0_measureWays_36 rfl (by decide) rfl rfl ?_
      exact w_X0_measureWays_37 FU 0 σ h
    · have h := hs_ie c h
      refine pw_aload_n eX0_measureWays_10 rfl ?_
      refine pw_getR (r := 45) eX0_measureWays_11 fl_X0_18 ob_42 rfl ?_
      refine pw_iload_n eX0_measureWays_14 rfl ?_
      refine pw_aload_n eX0_measureWays_15 rfl ?_
      refine pw_getR (r := 44) eX0_measureWays_16 fl_X0_15 ob_42 rfl ?_
      refine pw_iload_n eX0_measureWays_19 rfl ?_
      obtain ⟨v16, g, h⟩ := hs_bind h
      refine pw_iald' eX0_measureWays_20 ai_44 g ?_
      obtain ⟨σ17, g, h⟩ := hs_bind h
      refine pw_iast' eX0_measureWays_21 ai_45 g ?_
      refine pw_aload_n eX0_measureWays_22 rfl ?_
      refine pw_getR (r := 46) eX0_measureWays_23 fl_X0_21 ob_42 rfl ?_
      refine pw_iload_n eX0_measureWays_26 rfl ?_
      refine pw_iconst eX0_measureWays_27 ki_0 ?_
      obtain ⟨σ18, g, h⟩ := hs_bind h
      refine pw_iast' eX0_measureWays_28 ai_46 g ?_
      refine pw_iinc eX0_measureWays_29 (by decide) rfl ki_1 rfl rfl ?_
      refine pw_goto (pc' := 2) eX0_measureWays_32 (by decide) ?_
      exact ih (x1 + 1) σ18 h
def f_X0_measureWays (σ : HS) : Option (HS) :=
  f_X0_measureWays_2 FU 0 σ
set_option maxRecDepth 20000 in
theorem s_X0_measureWays {d : Nat} {σ : HS} {p : HS} (h : f_X0_measureWays σ = some p) : hs_Spec (d + 2) yX0_measureWays cX0_measureWays 5 none [.ref 42] σ (none, p) := by
  refine hs_spec' (by decide +kernel) rfl (Nat.le_of_ble_eq_true rfl) ?_
  show PW RX0 cX0_measureWays 5 (hs_zM (d + 2) none (none, p)) 0 [some (.ref 42), none, none, none, none] [] σ
  rw [f_X0_measureWays] at h
  refine pw_iconst eX0_measureWays_0 ki_0 ?_
  refine pw_istore_n eX0_measureWays_1 rfl (by decide) rfl rfl ?_
  exact w_X0_measureWays_2 FU 0 σ h

def f_X0_learn_95 (s1 : Nat) (k : Int32 → HS → Option (HS)) : Nat → Int32 → Int32 → HS → Option (HS)
  | 0, _, _, _ => none
  | n + 1, x2, x3, σ =>
    if (σ.1 42 7) ≤ x3 then
      k x2 σ
    else
      (f_X8_pair x2 x3 σ).bind fun q2 =>
      (f_X6_delay s1 x2 x3 q2.2).bind fun q3 =>
      (stI q3.2 47 36 q2.1 q3.1).bind fun σ4 =>
      (f_X8_pair x2 x3 σ4).bind fun q5 =>
      (ldI (q5.2.1 43) 6 x2).bind fun v6 =>
      (ldI (q5.2.1 43) 6 x3).bind fun v7 =>
      (f_X0_clashOf v6 v7 q5.2).bind fun q8 =>
      (stI q8.2 48 36 q5.1 q8.1).bind fun σ9 =>
      f_X0_learn_95 s1 k n x2 (x3 + 1) σ9
set_option maxRecDepth 20000 in
theorem w_X0_learn_95 {d : Nat} {s1 : Nat} (hs1 : hs_IsS s1) {p : HS} {k : Int32 → HS → Option (HS)} (hk : ∀ (x2 : Int32) (σ : HS), k x2 σ = some p → PW RX0 cX0_learn 4 (hs_zM (d + 3) none (none, p)) 150 [some (.ref 42), some (.ref s1), some (.int x2), none] [] σ) : ∀ (n : Nat) (x2 : Int32) (x3 : Int32) (σ : HS), f_X0_learn_95 s1 k n x2 x3 σ = some p → PW RX0 cX0_learn 4 (hs_zM (d + 3) none (none, p)) 95 [some (.ref 42), some (.ref s1), some (.int x2), some (.int x3)] [] σ := by
  intro n
  induction n with
  | zero =>
    intro x2 x3 σ h
    rw [f_X0_learn_95] at h
    cases h
  | succ n ih =>
    intro x2 x3 σ h
    rw [f_X0_learn_95] at h
    refine pw_iload_n eX0_learn_95 rfl ?_
    refine pw_aload_n eX0_learn_96 rfl ?_
    refine pw_getI eX0_learn_97 fl_X0_43 ob_42 rfl ?_
    refine pw_icmp_ge (tgt := 150) eX0_learn_100 (by decide) (fun c => ?_) (fun c => ?_)
    · have h := hs_it c h
      exact pw_le (hk x2 σ h) ⟨rfl, rfl, rfl, trivial⟩
    · have h := hs_ie c h
      refine pw_aload_n eX0_learn_103 rfl ?_
      refine pw_getR (r := 47) eX0_learn_104 fl_X0_24 ob_42 rfl ?_
      refine pw_iload_n eX0_learn_107 rfl ?_
      refine pw_iload_n eX0_learn_108 rfl ?_
      obtain ⟨q2, g, h⟩ := hs_bind h
      refine pw_mN2i eX0_learn_109 mn_X0_67 (s_X8_pair g) (Nat.le_of_ble_eq_true rfl) ?_
      refine pw_aload_n eX0_learn_112 rfl ?_
      refine pw_iload_n eX0_learn_113 rfl ?_
      refine pw_iload_n eX0_learn_114 rfl ?_
      obtain ⟨q3, g, h⟩ := hs_bind h
      refine pw_mV2i eX0_learn_115 mv_X0_70 hs1.1 (s_X6_delay hs1 g) (Nat.le_of_ble_eq_true rfl) ?_
      obtain ⟨σ4, g, h⟩ := hs_bind h
      refine pw_iast' eX0_learn_118 ai_47 g ?_
      refine pw_aload_n eX0_learn_119 rfl ?_
      refine pw_getR (r := 48) eX0_learn_120 fl_X0_27 ob_42 rfl ?_
      refine pw_iload_n eX0_learn_123 rfl ?_
      refine pw_iload_n eX0_learn_124 rfl ?_
      obtain ⟨q5, g, h⟩ := hs_bind h
      refine pw_mN2i eX0_learn_125 mn_X0_67 (s_X8_pair g) (Nat.le_of_ble_eq_true rfl) ?_
      refine pw_aload_n eX0_learn_128 rfl ?_
      refine pw_getR (r := 43) eX0_learn_129 fl_X0_9 ob_42 rfl ?_
      refine pw_iload_n eX0_learn_132 rfl ?_
      obtain ⟨v6, g, h⟩ := hs_bind h
      refine pw_iald' eX0_learn_133 ai_43 g ?_
      refine pw_aload_n eX0_learn_134 rfl ?_
      refine pw_getR (r := 43) eX0_learn_135 fl_X0_9 ob_42 rfl ?_
      refine pw_iload_n eX0_learn_138 rfl ?_
      obtain ⟨v7, g, h⟩ := hs_bind h
      refine pw_iald' eX0_learn_139 ai_43 g ?_
      obtain ⟨q8, g, h⟩ := hs_bind h
      refine pw_mS2i eX0_learn_140 ms_X0_72 (s_X0_clashOf g) (Nat.le_of_ble_eq_true rfl) ?_
      obtain ⟨σ9, g, h⟩ := hs_bind h
      refine pw_iast' eX0_learn_143 ai_48 g ?_
      refine pw_iinc eX0_learn_144 (by decide) rfl ki_1 rfl rfl ?_
      refine pw_goto (pc' := 95) eX0_learn_147 (by decide) ?_
      exact ih x2 (x3 + 1) σ9 h
def f_X0_learn_85 (s1 : Nat) : Nat → Int32 → HS → Option (HS)
  | 0, _, _ => none
  | n + 1, x2, σ =>
    if (σ.1 42 7) ≤ x2 then
      (f_X0_measureWays σ).bind fun σ1 =>
      some (sI σ1 42 9 1)
    else
      f_X0_learn_95 s1 (fun e10 σ11 =>
        f_X0_learn_85 s1 n (e10 + 1) σ11) FU x2 0 σ
set_option maxRecDepth 20000 in
theorem w_X0_learn_85 {d : Nat} {s1 : Nat} (hs1 : hs_IsS s1) {p : HS} : ∀ (n : Nat) (x2 : Int32) (σ : HS), f_X0_learn_85 s1 n x2 σ = some p → PW RX0 cX0_learn 4 (hs_zM (d + 3) none (none, p)) 85 [some (.ref 42), some (.ref s1), some (.int x2), none] [] σ := by
  intro n
  induction n with
  | zero =>
    intro x2 σ h
    rw [f_X0_learn_85] at h
    cases h
  | succ n ih =>
    intro x2 σ h
    rw [f_X0_learn_85] at h
    refine pw_iload_n eX0_learn_85 rfl ?_
    refine pw_aload_n eX0_learn_86 rfl ?_
    refine pw_getI eX0_learn_87 fl_X0_43 ob_42 rfl ?_
    refine pw_icmp_ge (tgt := 156) eX0_learn_90 (by decide) (fun c => ?_) (fun c => ?_)
    · have h := hs_it c h
      refine pw_aload_n eX0_learn_156 rfl ?_
      obtain ⟨σ1, g, h⟩ := hs_bind h
      refine pw_mV0v eX0_learn_157 mv_X0_75 ob_42 (s_X0_measureWays g) (Nat.le_of_ble_eq_true rfl) ?_
      refine pw_aload_n eX0_learn_160 rfl ?_
      refine pw_iconst eX0_learn_161 ki_1 ?_
      refine pw_putZ eX0_learn_162 fw_X0_33 ob_42 rfl narrow_b1 rfl ?_
      exact pw_vret' eX0_learn_165 h
    · have h := hs_ie c h
      refine pw_iconst eX0_learn_93 ki_0 ?_
      refine pw_istore_n eX0_learn_94 rfl (by decide) rfl rfl ?_
      refine w_X0_learn_95 hs1 (fun e10 σ11 h => ?_) FU x2 0 σ h
      refine pw_iinc eX0_learn_150 (by decide) rfl ki_1 rfl rfl ?_
      refine pw_goto (pc' := 85) eX0_learn_153 (by decide) ?_
      exact ih (e10 + 1) σ11 h
def f_X0_learn_26 (s1 : Nat) : Nat → Int32 → HS → Option (HS)
  | 0, _, _ => none
  | n + 1, x2, σ =>
    if (σ.1 42 7) ≤ x2 then
      f_X0_learn_85 s1 FU 0 σ
    else
      (ldI (σ.1 (s1 + 3)) 6 x2).bind fun v12 =>
      (ldI (σ.1 (s1 + 1)) 5 v12).bind fun v13 =>
      (stI σ 43 6 x2 v13).bind fun σ14 =>
      (ldI (σ14.1 (s1 + 2)) 5 v12).bind fun v15 =>
      (ldI (σ14.1 43) 6 x2).bind fun v16 =>
      (f_X0_turnsHeld v16 σ14).bind fun q17 =>
      (f_J9_max_7cf53 v15 q17.1 q17.2).bind fun q18 =>
      (stI q18.2 44 6 x2 q18.1).bind fun σ19 =>
      f_X0_learn_26 s1 n (x2 + 1) σ19
set_option maxRecDepth 20000 in
theorem w_X0_learn_26 {d : Nat} {s1 : Nat} (hs1 : hs_IsS s1) {p : HS} : ∀ (n : Nat) (x2 : Int32) (σ : HS), f_X0_learn_26 s1 n x2 σ = some p → PW RX0 cX0_learn 4 (hs_zM (d + 3) none (none, p)) 26 [some (.ref 42), some (.ref s1), some (.int x2), none] [] σ := by
  intro n
  induction n with
  | zero =>
    intro x2 σ h
    rw [f_X0_learn_26] at h
    cases h
  | succ n ih =>
    intro x2 σ h
    rw [f_X0_learn_26] at h
    refine pw_iload_n eX0_learn_26 rfl ?_
    refine pw_aload_n eX0_learn_27 rfl ?_
    refine pw_getI eX0_learn_28 fl_X0_43 ob_42 rfl ?_
    refine pw_icmp_ge (tgt := 83) eX0_learn_31 (by decide) (fun c => ?_) (fun c => ?_)
    · have h := hs_it c h
      refine pw_iconst eX0_learn_83 ki_0 ?_
      refine pw_istore_n eX0_learn_84 rfl (by decide) rfl rfl ?_
      exact w_X0_learn_85 hs1 FU 0 σ h
    · have h := hs_ie c h
      refine pw_aload_n eX0_learn_34 rfl ?_
      refine pw_getR (r := (s1 + 3)) eX0_learn_35 fl_X0_50 hs1.1 rfl ?_
      refine pw_iload_n eX0_learn_38 rfl ?_
      obtain ⟨v12, g, h⟩ := hs_bind h
      refine pw_iald' eX0_learn_39 hs1.2.2.2.1 g ?_
      refine pw_istore_n eX0_learn_40 rfl (by decide) rfl rfl ?_
      refine pw_aload_n eX0_learn_41 rfl ?_
      refine pw_getR (r := 43) eX0_learn_42 fl_X0_9 ob_42 rfl ?_
      refine pw_iload_n eX0_learn_45 rfl ?_
      refine pw_aload_n eX0_learn_46 rfl ?_
      refine pw_getR (r := (s1 + 1)) eX0_learn_47 fl_X0_53 hs1.1 rfl ?_
      refine pw_iload_n eX0_learn_50 rfl ?_
      obtain ⟨v13, g, h⟩ := hs_bind h
      refine pw_iald' eX0_learn_51 hs1.2.1 g ?_
      obtain ⟨σ14, g, h⟩ := hs_bind h
      refine pw_iast' eX0_learn_52 ai_43 g ?_
      refine pw_aload_n eX0_learn_53 rfl ?_
      refine pw_getR (r := 44) eX0_learn_54 fl_X0_15 ob_42 rfl ?_
      refine pw_iload_n eX0_learn_57 rfl ?_
      refine pw_aload_n eX0_learn_58 rfl ?_
      refine pw_getR (r := (s1 + 2)) eX0_learn_59 fl_X0_54 hs1.1 rfl ?_
      refine pw_iload_n eX0_learn_62 rfl ?_
      obtain ⟨v15, g, h⟩ := hs_bind h
      refine pw_iald' eX0_learn_63 hs1.2.2.1 g ?_
      refine pw_aload_n eX0_learn_64 rfl ?_
      refine pw_getR (r := 43) eX0_learn_65 fl_X0_9 ob_42 rfl ?_
      refine pw_iload_n eX0_learn_68 rfl ?_
      obtain ⟨v16, g, h⟩ := hs_bind h
      refine pw_iald' eX0_learn_69 ai_43 g ?_
      obtain ⟨q17, g, h⟩ := hs_bind h
      refine pw_mS1i eX0_learn_70 ms_X0_57 (s_X0_turnsHeld g) (Nat.le_of_ble_eq_true rfl) ?_
      obtain ⟨q18, g, h⟩ := hs_bind h
      refine pw_mS2i eX0_learn_73 ms_X0_61 (s_J9_max_7cf53 g) (Nat.le_of_ble_eq_true rfl) ?_
      obtain ⟨σ19, g, h⟩ := hs_bind h
      refine pw_iast' eX0_learn_76 ai_44 g ?_
      refine pw_iinc eX0_learn_77 (by decide) rfl ki_1 rfl rfl ?_
      refine pw_goto (pc' := 26) eX0_learn_80 (by decide) ?_
      exact pw_le (ih (x2 + 1) σ19 h) ⟨rfl, rfl, rfl, trivial⟩
def f_X0_learn (s1 : Nat) (σ : HS) : Option (HS) :=
  if (σ.1 42 9) = 0 then
    f_X0_learn_26 s1 FU 0 (sI (sI σ 42 7 (σ.1 s1 5)) 42 8 ((sI σ 42 7 (σ.1 s1 5)).1 s1 6))
  else
    some σ
set_option maxRecDepth 20000 in
theorem s_X0_learn {d : Nat} {s1 : Nat} (hs1 : hs_IsS s1) {σ : HS} {p : HS} (h : f_X0_learn s1 σ = some p) : hs_Spec (d + 3) yX0_learn cX0_learn 4 none [.ref 42, .ref s1] σ (none, p) := by
  refine hs_spec' (by decide +kernel) rfl (Nat.le_of_ble_eq_true rfl) ?_
  show PW RX0 cX0_learn 4 (hs_zM (d + 3) none (none, p)) 0 [some (.ref 42), some (.ref s1), none, none] [] σ
  rw [f_X0_learn] at h
  refine pw_aload_n eX0_learn_0 rfl ?_
  refine pw_getI eX0_learn_1 fl_X0_33 ob_42 rfl ?_
  refine pw_if_eq (tgt := 8) eX0_learn_4 (by decide) (fun c => ?_) (fun c => ?_)
  · have h := hs_it c h
    refine pw_aload_n eX0_learn_8 rfl ?_
    refine pw_aload_n eX0_learn_9 rfl ?_
    refine pw_getI eX0_learn_10 fl_X0_37 hs1.1 rfl ?_
    refine pw_putI eX0_learn_13 fw_X0_43 ob_42 rfl ?_
    refine pw_aload_n eX0_learn_16 rfl ?_
    refine pw_aload_n eX0_learn_17 rfl ?_
    refine pw_getI eX0_learn_18 fl_X0_46 hs1.1 rfl ?_
    refine pw_putI eX0_learn_21 fw_X0_49 ob_42 rfl ?_
    refine pw_iconst eX0_learn_24 ki_0 ?_
    refine pw_istore_n eX0_learn_25 rfl (by decide) rfl rfl ?_
    exact w_X0_learn_26 hs1 FU 0 (sI (sI σ 42 7 (σ.1 s1 5)) 42 8 ((sI σ 42 7 (σ.1 s1 5)).1 s1 6)) h
  · have h := hs_ie c h
    exact pw_vret' eX0_learn_7 h

def f_X0_leastLength_67 (k : Int32 → Int32 → Int32 → HS → Option (Int32 × HS)) : Nat → Int32 → Int32 → Int32 → Int32 → HS → Option (Int32 × HS)
  | 0, _, _, _, _, _ => none
  | n + 1, x1, x2, x3, x4, σ =>
    if (σ.1 42 7) ≤ x4 then
      k x1 x2 x3 σ
    else
      (ldI (σ.1 43) 6 x4).bind fun v1 =>
      (f_X8_unitOf v1 x2 σ).bind fun q2 =>
      (f_J6_bitCount_0f7a4 q2.1 q2.2).bind fun q3 =>
      f_X0_leastLength_67 k n x1 x2 (x3 + q3.1) (x4 + 1) q3.2
set_option maxRecDepth 20000 in
theorem w_X0_leastLength_67 {d : Nat} {p : Int32 × HS} {k : Int32 → Int32 → Int32 → HS → Option (Int32 × HS)} (hk : ∀ (x1 : Int32) (x2 : Int32) (x3 : Int32) (σ : HS), k x1 x2 x3 σ = some p → PW RX0 cX0_leastLength 5 (hs_zM (d + 2) (some .int) (some (.int p.1), p.2)) 99 [some (.ref 42), some (.int x1), some (.int x2), some (.int x3), none] [] σ) : ∀ (n : Nat) (x1 : Int32) (x2 : Int32) (x3 : Int32) (x4 : Int32) (σ : HS), f_X0_leastLength_67 k n x1 x2 x3 x4 σ = some p → PW RX0 cX0_leastLength 5 (hs_zM (d + 2) (some .int) (some (.int p.1), p.2)) 67 [some (.ref 42), some (.int x1), some (.int x2), some (.int x3), some (.int x4)] [] σ := by
  intro n
  induction n with
  | zero =>
    intro x1 x2 x3 x4 σ h
    rw [f_X0_leastLength_67] at h
    cases h
  | succ n ih =>
    intro x1 x2 x3 x4 σ h
    rw [f_X0_leastLength_67] at h
    refine pw_iload eX0_leastLength_67 rfl ?_
    refine pw_aload_n eX0_leastLength_69 rfl ?_
    refine pw_getI eX0_leastLength_70 fl_X0_43 ob_42 rfl ?_
    refine pw_icmp_ge (tgt := 99) eX0_leastLength_73 (by decide) (fun c => ?_) (fun c => ?_)
    · have h := hs_it c h
      exact pw_le (hk x1 x2 x3 σ h) ⟨rfl, rfl, rfl, rfl, trivial⟩
    · have h := hs_ie c h
      refine pw_iload_n eX0_leastLength_76 rfl ?_
      refine pw_aload_n eX0_leastLength_77 rfl ?_
      refine pw_getR (r := 43) eX0_leastLength_78 fl_X0_9 ob_42 rfl ?_
      refine pw_iload eX0_leastLength_81 rfl ?_
      obtain ⟨v1, g, h⟩ := hs_bind h
      refine pw_iald' eX0_leastLength_83 ai_43 g ?_
      refine pw_iload_n eX0_leastLength_84 rfl ?_
      obtain ⟨q2, g, h⟩ := hs_bind h
      refine pw_mN2i eX0_leastLength_85 mn_X0_78 (s_X8_unitOf g) (Nat.le_of_ble_eq_true rfl) ?_
      obtain ⟨q3, g, h⟩ := hs_bind h
      refine pw_mS1i eX0_leastLength_88 ms_X0_81 (s_J6_bitCount_0f7a4 g) (Nat.le_of_ble_eq_true rfl) ?_
      refine pw_iadd eX0_leastLength_91 ?_
      refine pw_istore_n eX0_leastLength_92 rfl (by decide) rfl rfl ?_
      refine pw_iinc eX0_leastLength_93 (by decide) rfl ki_1 rfl rfl ?_
      refine pw_goto (pc' := 67) eX0_leastLength_96 (by decide) ?_
      exact ih x1 x2 (x3 + q3.1) (x4 + 1) q3.2 h
def f_X0_leastLength_57 : Nat → Int32 → Int32 → HS → Option (Int32 × HS)
  | 0, _, _, _ => none
  | n + 1, x1, x2, σ =>
    if (3 : Int32) ≤ x2 then
      some (x1, σ)
    else
      f_X0_leastLength_67 (fun e4 e5 e6 σ7 =>
        (f_J9_max_7cf53 e4 e6 σ7).bind fun q8 =>
      f_X0_leastLength_57 n q8.1 (e5 + 1) q8.2) FU x1 x2 0 0 σ
set_option maxRecDepth 20000 in
theorem w_X0_leastLength_57 {d : Nat} {p : Int32 × HS} : ∀ (n : Nat) (x1 : Int32) (x2 : Int32) (σ : HS), f_X0_leastLength_57 n x1 x2 σ = some p → PW RX0 cX0_leastLength 5 (hs_zM (d + 2) (some .int) (some (.int p.1), p.2)) 57 [some (.ref 42), some (.int x1), some (.int x2), none, none] [] σ := by
  intro n
  induction n with
  | zero =>
    intro x1 x2 σ h
    rw [f_X0_leastLength_57] at h
    cases h
  | succ n ih =>
    intro x1 x2 σ h
    rw [f_X0_leastLength_57] at h
    refine pw_iload_n eX0_leastLength_57 rfl ?_
    refine pw_iconst eX0_leastLength_58 ki_3 ?_
    refine pw_icmp_ge (tgt := 111) eX0_leastLength_59 (by decide) (fun c => ?_) (fun c => ?_)
    · have h := hs_it c h
      refine pw_iload_n eX0_leastLength_111 rfl ?_
      exact pw_iret' eX0_leastLength_112 h
    · have h := hs_ie c h
      refine pw_iconst eX0_leastLength_62 ki_0 ?_
      refine pw_istore_n eX0_leastLength_63 rfl (by decide) rfl rfl ?_
      refine pw_iconst eX0_leastLength_64 ki_0 ?_
      refine pw_istore eX0_leastLength_65 (by decide) rfl rfl ?_
      refine w_X0_leastLength_67 (fun e4 e5 e6 σ7 h => ?_) FU x1 x2 0 0 σ h
      refine pw_iload_n eX0_leastLength_99 rfl ?_
      refine pw_iload_n eX0_leastLength_100 rfl ?_
      obtain ⟨q8, g, h⟩ := hs_bind h
      refine pw_mS2i eX0_leastLength_101 ms_X0_61 (s_J9_max_7cf53 g) (Nat.le_of_ble_eq_true rfl) ?_
      refine pw_istore_n eX0_leastLength_104 rfl (by decide) rfl rfl ?_
      refine pw_iinc eX0_leastLength_105 (by decide) rfl ki_1 rfl rfl ?_
      refine pw_goto (pc' := 57) eX0_leastLength_108 (by decide) ?_
      exact pw_le (ih q8.1 (e5 + 1) q8.2 h) ⟨rfl, rfl, rfl, trivial⟩
def f_X0_leastLength_30 : Nat → Int32 → Int32 → HS → Option (Int32 × HS)
  | 0, _, _, _ => none
  | n + 1, x1, x2, σ =>
    if (σ.1 42 7) ≤ x2 then
      f_X0_leastLength_57 FU x1 0 σ
    else
      (ldI (σ.1 45) 6 x2).bind fun v9 =>
      (f_J9_max_7cf53 x1 v9 σ).bind fun q10 =>
      f_X0_leastLength_30 n q10.1 (x2 + 1) q10.2
set_option maxRecDepth 20000 in
theorem w_X0_leastLength_30 {d : Nat} {p : Int32 × HS} : ∀ (n : Nat) (x1 : Int32) (x2 : Int32) (σ : HS), f_X0_leastLength_30 n x1 x2 σ = some p → PW RX0 cX0_leastLength 5 (hs_zM (d + 2) (some .int) (some (.int p.1), p.2)) 30 [some (.ref 42), some (.int x1), some (.int x2), none, none] [] σ := by
  intro n
  induction n with
  | zero =>
    intro x1 x2 σ h
    rw [f_X0_leastLength_30] at h
    cases h
  | succ n ih =>
    intro x1 x2 σ h
    rw [f_X0_leastLength_30] at h
    refine pw_iload_n eX0_leastLength_30 rfl ?_
    refine pw_aload_n eX0_leastLength_31 rfl ?_
    refine pw_getI eX0_leastLength_32 fl_X0_43 ob_42 rfl ?_
    refine pw_icmp_ge (tgt := 55) eX0_leastLength_35 (by decide) (fun c => ?_) (fun c => ?_)
    · have h := hs_it c h
      refine pw_iconst eX0_leastLength_55 ki_0 ?_
      refine pw_istore_n eX0_leastLength_56 rfl (by decide) rfl rfl ?_
      exact w_X0_leastLength_57 FU x1 0 σ h
    · have h := hs_ie c h
      refine pw_iload_n eX0_leastLength_38 rfl ?_
      refine pw_aload_n eX0_leastLength_39 rfl ?_
      refine pw_getR (r := 45) eX0_leastLength_40 fl_X0_18 ob_42 rfl ?_
      refine pw_iload_n eX0_leastLength_43 rfl ?_
      obtain ⟨v9, g, h⟩ := hs_bind h
      refine pw_iald' eX0_leastLength_44 ai_45 g ?_
      obtain ⟨q10, g, h⟩ := hs_bind h
      refine pw_mS2i eX0_leastLength_45 ms_X0_61 (s_J9_max_7cf53 g) (Nat.le_of_ble_eq_true rfl) ?_
      refine pw_istore_n eX0_leastLength_48 rfl (by decide) rfl rfl ?_
      refine pw_iinc eX0_leastLength_49 (by decide) rfl ki_1 rfl rfl ?_
      refine pw_goto (pc' := 30) eX0_leastLength_52 (by decide) ?_
      exact ih q10.1 (x2 + 1) q10.2 h
def f_X0_leastLength (σ : HS) : Option (Int32 × HS) :=
  if (σ.1 42 8) ≤ 0 then
    f_X0_leastLength_30 FU 0 0 σ
  else
    (dvI (((σ.1 42 7) + (σ.1 42 8)) - 1) (σ.1 42 8)).bind fun v11 =>
    f_X0_leastLength_30 FU v11 0 σ
set_option maxRecDepth 20000 in
theorem s_X0_leastLength {d : Nat} {σ : HS} {p : Int32 × HS} (h : f_X0_leastLength σ = some p) : hs_Spec (d + 2) yX0_leastLength cX0_leastLength 5 (some .int) [.ref 42] σ (some (.int p.1), p.2) := by
  refine hs_spec' (by decide +kernel) rfl (Nat.le_of_ble_eq_true rfl) ?_
  show PW RX0 cX0_leastLength 5 (hs_zM (d + 2) (some .int) (some (.int p.1), p.2)) 0 [some (.ref 42), none, none, none, none] [] σ
  rw [f_X0_leastLength] at h
  refine pw_aload_n eX0_leastLength_0 rfl ?_
  refine pw_getI eX0_leastLength_1 fl_X0_49 ob_42 rfl ?_
  refine pw_if_le (tgt := 26) eX0_leastLength_4 (by decide) (fun c => ?_) (fun c => ?_)
  · have h := hs_it c h
    refine pw_iconst eX0_leastLength_26 ki_0 ?_
    refine pw_istore_n eX0_leastLength_27 rfl (by decide) rfl rfl ?_
    refine pw_iconst eX0_leastLength_28 ki_0 ?_
    refine pw_istore_n eX0_leastLength_29 rfl (by decide) rfl rfl ?_
    exact w_X0_leastLength_30 FU 0 0 σ h
  · have h := hs_ie c h
    refine pw_aload_n eX0_leastLength_7 rfl ?_
    refine pw_getI eX0_leastLength_8 fl_X0_43 ob_42 rfl ?_
    refine pw_aload_n eX0_leastLength_11 rfl ?_
    refine pw_getI eX0_leastLength_12 fl_X0_49 ob_42 rfl ?_
    refine pw_iadd eX0_leastLength_15 ?_
    refine pw_iconst eX0_leastLength_16 ki_1 ?_
    refine pw_isub eX0_leastLength_17 ?_
    refine pw_aload_n eX0_leastLength_18 rfl ?_
    refine pw_getI eX0_leastLength_19 fl_X0_49 ob_42 rfl ?_
    obtain ⟨v11, g, h⟩ := hs_bind h
    refine pw_idiv' eX0_leastLength_22 g ?_
    refine pw_goto (pc' := 27) eX0_leastLength_23 (by decide) ?_
    refine pw_istore_n eX0_leastLength_27 rfl (by decide) rfl rfl ?_
    refine pw_iconst eX0_leastLength_28 ki_0 ?_
    refine pw_istore_n eX0_leastLength_29 rfl (by decide) rfl rfl ?_
    exact w_X0_leastLength_30 FU v11 0 σ h

def f_X0_lengthOf_4 (s1 : Nat) : Nat → Int32 → Int32 → HS → Option (Int32 × HS)
  | 0, _, _, _ => none
  | n + 1, x2, x3, σ =>
    if (σ.1 42 7) ≤ x3 then
      some (x2, σ)
    else
      (ldI (σ.1 s1) 6 x3).bind fun v1 =>
      (ldI (σ.1 44) 6 x3).bind fun v2 =>
      (f_J9_max_7cf53 x2 (v1 + v2) σ).bind fun q3 =>
      f_X0_lengthOf_4 s1 n q3.1 (x3 + 1) q3.2
set_option maxRecDepth 20000 in
theorem w_X0_lengthOf_4 {d : Nat} {s1 : Nat} (hs1 : hs_AI s1 6) {p : Int32 × HS} : ∀ (n : Nat) (x2 : Int32) (x3 : Int32) (σ : HS), f_X0_lengthOf_4 s1 n x2 x3 σ = some p → PW RX0 cX0_lengthOf 4 (hs_zM (d + 2) (some .int) (some (.int p.1), p.2)) 4 [some (.ref 42), some (.ref s1), some (.int x2), some (.int x3)] [] σ := by
  intro n
  induction n with
  | zero =>
    intro x2 x3 σ h
    rw [f_X0_lengthOf_4] at h
    cases h
  | succ n ih =>
    intro x2 x3 σ h
    rw [f_X0_lengthOf_4] at h
    refine pw_iload_n eX0_lengthOf_4 rfl ?_
    refine pw_aload_n eX0_lengthOf_5 rfl ?_
    refine pw_getI eX0_lengthOf_6 fl_X0_43 ob_42 rfl ?_
    refine pw_icmp_ge (tgt := 33) eX0_lengthOf_9 (by decide) (fun c => ?_) (fun c => ?_)
    · have h := hs_it c h
      refine pw_iload_n eX0_lengthOf_33 rfl ?_
      exact pw_iret' eX0_lengthOf_34 h
    · have h := hs_ie c h
      refine pw_iload_n eX0_lengthOf_12 rfl ?_
      refine pw_aload_n eX0_lengthOf_13 rfl ?_
      refine pw_iload_n eX0_lengthOf_14 rfl ?_
      obtain ⟨v1, g, h⟩ := hs_bind h
      refine pw_iald' eX0_lengthOf_15 hs1 g ?_
      refine pw_aload_n eX0_lengthOf_16 rfl ?_
      refine pw_getR (r := 44) eX0_lengthOf_17 fl_X0_15 ob_42 rfl ?_
      refine pw_iload_n eX0_lengthOf_20 rfl ?_
      obtain ⟨v2, g, h⟩ := hs_bind h
      refine pw_iald' eX0_lengthOf_21 ai_44 g ?_
      refine pw_iadd eX0_lengthOf_22 ?_
      obtain ⟨q3, g, h⟩ := hs_bind h
      refine pw_mS2i eX0_lengthOf_23 ms_X0_61 (s_J9_max_7cf53 g) (Nat.le_of_ble_eq_true rfl) ?_
      refine pw_istore_n eX0_lengthOf_26 rfl (by decide) rfl rfl ?_
      refine pw_iinc eX0_lengthOf_27 (by decide) rfl ki_1 rfl rfl ?_
      refine pw_goto (pc' := 4) eX0_lengthOf_30 (by decide) ?_
      exact ih q3.1 (x3 + 1) q3.2 h
def f_X0_lengthOf (s1 : Nat) (σ : HS) : Option (Int32 × HS) :=
  f_X0_lengthOf_4 s1 FU 0 0 σ
set_option maxRecDepth 20000 in
theorem s_X0_lengthOf {d : Nat} {s1 : Nat} (hs1 : hs_AI s1 6) {σ : HS} {p : Int32 × HS} (h : f_X0_lengthOf s1 σ = some p) : hs_Spec (d + 2) yX0_lengthOf cX0_lengthOf 4 (some .int) [.ref 42, .ref s1] σ (some (.int p.1), p.2) := by
  refine hs_spec' (by decide +kernel) rfl (Nat.le_of_ble_eq_true rfl) ?_
  show PW RX0 cX0_lengthOf 4 (hs_zM (d + 2) (some .int) (some (.int p.1), p.2)) 0 [some (.ref 42), some (.ref s1), none, none] [] σ
  rw [f_X0_lengthOf] at h
  refine pw_iconst eX0_lengthOf_0 ki_0 ?_
  refine pw_istore_n eX0_lengthOf_1 rfl (by decide) rfl rfl ?_
  refine pw_iconst eX0_lengthOf_2 ki_0 ?_
  refine pw_istore_n eX0_lengthOf_3 rfl (by decide) rfl rfl ?_
  exact w_X0_lengthOf_4 hs1 FU 0 0 σ h

def f_X0_clashes (x1 : Int32) (x2 : Int32) (x3 : Int32) (x4 : Int32) (σ : HS) : Option (Int32 × HS) :=
  if (x4 - x2) ≤ (-4) then
    some (0, σ)
  else
    if (4 : Int32) ≤ (x4 - x2) then
      some (0, σ)
    else
      (f_X8_pair x1 x3 σ).bind fun q1 =>
      (ldI (q1.2.1 48) 36 q1.1).bind fun v2 =>
      if ((v2 >>> ((((x4 - x2) + 4) - 1) &&& 31)) &&& 1) = 0 then
        some (0, q1.2)
      else
        some (1, q1.2)
set_option maxRecDepth 20000 in
theorem s_X0_clashes {d : Nat} {x1 : Int32} {x2 : Int32} {x3 : Int32} {x4 : Int32} {σ : HS} {p : Int32 × HS} (h : f_X0_clashes x1 x2 x3 x4 σ = some p) : hs_Spec (d + 2) yX0_clashes cX0_clashes 6 (some .boolean) [.ref 42, .int x1, .int x2, .int x3, .int x4] σ (some (.int p.1), p.2) := by
  refine hs_spec' (by decide +kernel) rfl (Nat.le_of_ble_eq_true rfl) ?_
  show PW RX0 cX0_clashes 6 (hs_zM (d + 2) (some .boolean) (some (.int p.1), p.2)) 0 [some (.ref 42), some (.int x1), some (.int x2), some (.int x3), some (.int x4), none] [] σ
  rw [f_X0_clashes] at h
  refine pw_iload eX0_clashes_0 rfl ?_
  refine pw_iload_n eX0_clashes_2 rfl ?_
  refine pw_isub eX0_clashes_3 ?_
  refine pw_istore eX0_clashes_4 (by decide) rfl rfl ?_
  refine pw_iload eX0_clashes_6 rfl ?_
  refine pw_bipush eX0_clashes_8 kb_m4 ?_
  refine pw_icmp_le (tgt := 45) eX0_clashes_10 (by decide) (fun c => ?_) (fun c => ?_)
  · have h := hs_it c h
    refine pw_iconst eX0_clashes_45 ki_0 ?_
    exact pw_zret' eX0_clashes_46 narrow_b0 h
  · have h := hs_ie c h
    refine pw_iload eX0_clashes_13 rfl ?_
    refine pw_iconst eX0_clashes_15 ki_4 ?_
    refine pw_icmp_ge (tgt := 45) eX0_clashes_16 (by decide) (fun c => ?_) (fun c => ?_)
    · have h := hs_it c h
      refine pw_iconst eX0_clashes_45 ki_0 ?_
      exact pw_zret' eX0_clashes_46 narrow_b0 h
    · have h := hs_ie c h
      refine pw_aload_n eX0_clashes_19 rfl ?_
      refine pw_getR (r := 48) eX0_clashes_20 fl_X0_27 ob_42 rfl ?_
      refine pw_iload_n eX0_clashes_23 rfl ?_
      refine pw_iload_n eX0_clashes_24 rfl ?_
      obtain ⟨q1, g, h⟩ := hs_bind h
      refine pw_mN2i eX0_clashes_25 mn_X0_67 (s_X8_pair g) (Nat.le_of_ble_eq_true rfl) ?_
      obtain ⟨v2, g, h⟩ := hs_bind h
      refine pw_iald' eX0_clashes_28 ai_48 g ?_
      refine pw_iload eX0_clashes_29 rfl ?_
      refine pw_iconst eX0_clashes_31 ki_4 ?_
      refine pw_iadd eX0_clashes_32 ?_
      refine pw_iconst eX0_clashes_33 ki_1 ?_
      refine pw_isub eX0_clashes_34 ?_
      refine pw_ishr eX0_clashes_35 ?_
      refine pw_iconst eX0_clashes_36 ki_1 ?_
      refine pw_iand eX0_clashes_37 ?_
      refine pw_if_eq (tgt := 45) eX0_clashes_38 (by decide) (fun c => ?_) (fun c => ?_)
      · have h := hs_it c h
        refine pw_iconst eX0_clashes_45 ki_0 ?_
        exact pw_zret' eX0_clashes_46 narrow_b0 h
      · have h := hs_ie c h
        refine pw_iconst eX0_clashes_41 ki_1 ?_
        refine pw_goto (pc' := 46) eX0_clashes_42 (by decide) ?_
        exact pw_zret' eX0_clashes_46 narrow_b1 h

def f_X0_isPlan_76 (rec : Int32 → Int32 → Int32 → HS → Option (Int32 × HS)) (x2 : Int32) (x3 : Int32) (x4 : Int32) (σ : HS) : Option (Int32 × HS) :=
  if x2 = x4 then
    rec x2 x3 (x4 + 1) σ
  else
    (ldI (σ.1 49) 6 x2).bind fun v5 =>
    (ldI (σ.1 49) 6 x4).bind fun v6 =>
    (f_X0_clashes x2 v5 x4 v6 σ).bind fun q7 =>
    if q7.1 = 0 then
      rec x2 x3 (x4 + 1) q7.2
    else
      some (0, q7.2)
set_option maxRecDepth 20000 in
theorem w_X0_isPlan_76 {d : Nat} {p : Int32 × HS} {rec : Int32 → Int32 → Int32 → HS → Option (Int32 × HS)} (hrec : ∀ (x2 : Int32) (x3 : Int32) (x4 : Int32) (σ : HS), rec x2 x3 x4 σ = some p → PW RX0 cX0_isPlan 5 (hs_zM (d + 3) (some .boolean) (some (.int p.1), p.2)) 15 [some (.ref 42), some (.ref 49), some (.int x2), some (.int x3), some (.int x4)] [] σ) : ∀ (x2 : Int32) (x3 : Int32) (x4 : Int32) (σ : HS), f_X0_isPlan_76 rec x2 x3 x4 σ = some p → PW RX0 cX0_isPlan 5 (hs_zM (d + 3) (some .boolean) (some (.int p.1), p.2)) 76 [some (.ref 42), some (.ref 49), some (.int x2), some (.int x3), some (.int x4)] [] σ := by
  intro x2 x3 x4 σ h
  rw [f_X0_isPlan_76] at h
  refine pw_iload_n eX0_isPlan_76 rfl ?_
  refine pw_iload eX0_isPlan_77 rfl ?_
  refine pw_icmp_eq (tgt := 101) eX0_isPlan_79 (by decide) (fun c => ?_) (fun c => ?_)
  · have h := hs_it c h
    refine pw_iinc eX0_isPlan_101 (by decide) rfl ki_1 rfl rfl ?_
    refine pw_goto (pc' := 15) eX0_isPlan_104 (by decide) ?_
    exact hrec x2 x3 (x4 + 1) σ h
  · have h := hs_ie c h
    refine pw_aload_n eX0_isPlan_82 rfl ?_
    refine pw_iload_n eX0_isPlan_83 rfl ?_
    refine pw_aload_n eX0_isPlan_84 rfl ?_
    refine pw_iload_n eX0_isPlan_85 rfl ?_
    obtain ⟨v5, g, h⟩ := hs_bind h
    refine pw_iald' eX0_isPlan_86 ai_49 g ?_
    refine pw_iload eX0_isPlan_87 rfl ?_
    refine pw_aload_n eX0_isPlan_89 rfl ?_
    refine pw_iload eX0_isPlan_90 rfl ?_
    obtain ⟨v6, g, h⟩ := hs_bind h
    refine pw_iald' eX0_isPlan_92 ai_49 g ?_
    obtain ⟨q7, g, h⟩ := hs_bind h
    refine pw_mV4i eX0_isPlan_93 mv_X0_94 ob_42 (s_X0_clashes g) (Nat.le_of_ble_eq_true rfl) ?_
    refine pw_if_eq (tgt := 101) eX0_isPlan_96 (by decide) (fun c => ?_) (fun c => ?_)
    · have h := hs_it c h
      refine pw_iinc eX0_isPlan_101 (by decide) rfl ki_1 rfl rfl ?_
      refine pw_goto (pc' := 15) eX0_isPlan_104 (by decide) ?_
      exact hrec x2 x3 (x4 + 1) q7.2 h
    · have h := hs_ie c h
      refine pw_iconst eX0_isPlan_99 ki_0 ?_
      exact pw_zret' eX0_isPlan_100 narrow_b0 h
def f_X0_isPlan_37 (rec : Int32 → Int32 → Int32 → HS → Option (Int32 × HS)) (x2 : Int32) (x3 : Int32) (x4 : Int32) (σ : HS) : Option (Int32 × HS) :=
  (f_X8_pair x2 x4 σ).bind fun q3 =>
  (ldI (q3.2.1 47) 36 q3.1).bind fun v4 =>
  if v4 = (-1) then
    f_X0_isPlan_76 rec x2 x3 x4 q3.2
  else
    (ldI (q3.2.1 49) 6 x2).bind fun v8 =>
    (ldI (q3.2.1 49) 6 x4).bind fun v9 =>
    (f_X8_pair x2 x4 q3.2).bind fun q10 =>
    (ldI (q10.2.1 47) 36 q10.1).bind fun v11 =>
    if (v9 + v11) ≤ v8 then
      f_X0_isPlan_76 rec x2 x3 x4 q10.2
    else
      some (0, q10.2)
set_option maxRecDepth 20000 in
theorem w_X0_isPlan_37 {d : Nat} {p : Int32 × HS} {rec : Int32 → Int32 → Int32 → HS → Option (Int32 × HS)} (hrec : ∀ (x2 : Int32) (x3 : Int32) (x4 : Int32) (σ : HS), rec x2 x3 x4 σ = some p → PW RX0 cX0_isPlan 5 (hs_zM (d + 3) (some .boolean) (some (.int p.1), p.2)) 15 [some (.ref 42), some (.ref 49), some (.int x2), some (.int x3), some (.int x4)] [] σ) : ∀ (x2 : Int32) (x3 : Int32) (x4 : Int32) (σ : HS), f_X0_isPlan_37 rec x2 x3 x4 σ = some p → PW RX0 cX0_isPlan 5 (hs_zM (d + 3) (some .boolean) (some (.int p.1), p.2)) 37 [some (.ref 42), some (.ref 49), some (.int x2), some (.int x3), some (.int x4)] [] σ := by
  intro x2 x3 x4 σ h
  rw [f_X0_isPlan_37] at h
  refine pw_aload_n eX0_isPlan_37 rfl ?_
  refine pw_getR (r := 47) eX0_isPlan_38 fl_X0_24 ob_42 rfl ?_
  refine pw_iload_n eX0_isPlan_41 rfl ?_
  refine pw_iload eX0_isPlan_42 rfl ?_
  obtain ⟨q3, g, h⟩ := hs_bind h
  refine pw_mN2i eX0_isPlan_44 mn_X0_67 (s_X8_pair g) (Nat.le_of_ble_eq_true rfl) ?_
  obtain ⟨v4, g, h⟩ := hs_bind h
  refine pw_iald' eX0_isPlan_47 ai_47 g ?_
  refine pw_iconst eX0_isPlan_48 ki_m1 ?_
  refine pw_icmp_eq (tgt := 76) eX0_isPlan_49 (by decide) (fun c => ?_) (fun c => ?_)
  · have h := hs_it c h
    exact w_X0_isPlan_76 hrec x2 x3 x4 q3.2 h
  · have h := hs_ie c h
    refine pw_aload_n eX0_isPlan_52 rfl ?_
    refine pw_iload_n eX0_isPlan_53 rfl ?_
    obtain ⟨v8, g, h⟩ := hs_bind h
    refine pw_iald' eX0_isPlan_54 ai_49 g ?_
    refine pw_aload_n eX0_isPlan_55 rfl ?_
    refine pw_iload eX0_isPlan_56 rfl ?_
    obtain ⟨v9, g, h⟩ := hs_bind h
    refine pw_iald' eX0_isPlan_58 ai_49 g ?_
    refine pw_aload_n eX0_isPlan_59 rfl ?_
    refine pw_getR (r := 47) eX0_isPlan_60 fl_X0_24 ob_42 rfl ?_
    refine pw_iload_n eX0_isPlan_63 rfl ?_
    refine pw_iload eX0_isPlan_64 rfl ?_
    obtain ⟨q10, g, h⟩ := hs_bind h
    refine pw_mN2i eX0_isPlan_66 mn_X0_67 (s_X8_pair g) (Nat.le_of_ble_eq_true rfl) ?_
    obtain ⟨v11, g, h⟩ := hs_bind h
    refine pw_iald' eX0_isPlan_69 ai_47 g ?_
    refine pw_iadd eX0_isPlan_70 ?_
    refine pw_icmp_ge (tgt := 76) eX0_isPlan_71 (by decide) (fun c => ?_) (fun c => ?_)
    · have h := hs_it c h
      exact w_X0_isPlan_76 hrec x2 x3 x4 q10.2 h
    · have h := hs_ie c h
      refine pw_iconst eX0_isPlan_74 ki_0 ?_
      exact pw_zret' eX0_isPlan_75 narrow_b0 h
def f_X0_isPlan_15 (k : Int32 → Int32 → HS → Option (Int32 × HS)) : Nat → Int32 → Int32 → Int32 → HS → Option (Int32 × HS)
  | 0, _, _, _, _ => none
  | n + 1, x2, x3, x4, σ =>
    if (σ.1 42 7) ≤ x4 then
      k x2 x3 σ
    else
      (ldI (σ.1 49) 6 x4).bind fun v1 =>
      (ldI (σ.1 49) 6 x2).bind fun v2 =>
      if v1 = v2 then
        f_X0_isPlan_37 (f_X0_isPlan_15 k n) x2 (x3 + 1) x4 σ
      else
        f_X0_isPlan_37 (f_X0_isPlan_15 k n) x2 x3 x4 σ
set_option maxRecDepth 20000 in
theorem w_X0_isPlan_15 {d : Nat} {p : Int32 × HS} {k : Int32 → Int32 → HS → Option (Int32 × HS)} (hk : ∀ (x2 : Int32) (x3 : Int32) (σ : HS), k x2 x3 σ = some p → PW RX0 cX0_isPlan 5 (hs_zM (d + 3) (some .boolean) (some (.int p.1), p.2)) 107 [some (.ref 42), some (.ref 49), some (.int x2), some (.int x3), none] [] σ) : ∀ (n : Nat) (x2 : Int32) (x3 : Int32) (x4 : Int32) (σ : HS), f_X0_isPlan_15 k n x2 x3 x4 σ = some p → PW RX0 cX0_isPlan 5 (hs_zM (d + 3) (some .boolean) (some (.int p.1), p.2)) 15 [some (.ref 42), some (.ref 49), some (.int x2), some (.int x3), some (.int x4)] [] σ := by
  intro n
  induction n with
  | zero =>
    intro x2 x3 x4 σ h
    rw [f_X0_isPlan_15] at h
    cases h
  | succ n ih =>
    intro x2 x3 x4 σ h
    rw [f_X0_isPlan_15] at h
    refine pw_iload eX0_isPlan_15 rfl ?_
    refine pw_aload_n eX0_isPlan_17 rfl ?_
    refine pw_getI eX0_isPlan_18 fl_X0_43 ob_42 rfl ?_
    refine pw_icmp_ge (tgt := 107) eX0_isPlan_21 (by decide) (fun c => ?_) (fun c => ?_)
    · have h := hs_it c h
      exact pw_le (hk x2 x3 σ h) ⟨rfl, rfl, rfl, rfl, trivial⟩
    · have h := hs_ie c h
      refine pw_aload_n eX0_isPlan_24 rfl ?_
      refine pw_iload eX0_isPlan_25 rfl ?_
      obtain ⟨v1, g, h⟩ := hs_bind h
      refine pw_iald' eX0_isPlan_27 ai_49 g ?_
      refine pw_aload_n eX0_isPlan_28 rfl ?_
      refine pw_iload_n eX0_isPlan_29 rfl ?_
      obtain ⟨v2, g, h⟩ := hs_bind h
      refine pw_iald' eX0_isPlan_30 ai_49 g ?_
      refine pw_icmp_ne (tgt := 37) eX0_isPlan_31 (by decide) (fun c => ?_) (fun c => ?_)
      · have h := hs_ie c h
        exact w_X0_isPlan_37 ih x2 x3 x4 σ h
      · have h := hs_it c h
        refine pw_iinc eX0_isPlan_34 (by decide) rfl ki_1 rfl rfl ?_
        exact w_X0_isPlan_37 ih x2 (x3 + 1) x4 σ h
def f_X0_isPlan_2 : Nat → Int32 → HS → Option (Int32 × HS)
  | 0, _, _ => none
  | n + 1, x2, σ =>
    if (σ.1 42 7) ≤ x2 then
      some (1, σ)
    else
      f_X0_isPlan_15 (fun e12 e13 σ14 =>
        if e13 ≤ (σ14.1 42 8) then
        f_X0_isPlan_2 n (e12 + 1) σ14
      else
        some (0, σ14)) FU x2 0 0 σ
set_option maxRecDepth 20000 in
theorem w_X0_isPlan_2 {d : Nat} {p : Int32 × HS} : ∀ (n : Nat) (x2 : Int32) (σ : HS), f_X0_isPlan_2 n x2 σ = some p → PW RX0 cX0_isPlan 5 (hs_zM (d + 3) (some .boolean) (some (.int p.1), p.2)) 2 [some (.ref 42), some (.ref 49), some (.int x2), none, none] [] σ := by
  intro n
  induction n with
  | zero =>
    intro x2 σ h
    rw [f_X0_isPlan_2] at h
    cases h
  | succ n ih =>
    intro x2 σ h
    rw [f_X0_isPlan_2] at h
    refine pw_iload_n eX0_isPlan_2 rfl ?_
    refine pw_aload_n eX0_isPlan_3 rfl ?_
    refine pw_getI eX0_isPlan_4 fl_X0_43 ob_42 rfl ?_
    refine pw_icmp_ge (tgt := 123) eX0_isPlan_7 (by decide) (fun c => ?_) (fun c => ?_)
    · have h := hs_it c h
      refine pw_iconst eX0_isPlan_123 ki_1 ?_
      exact pw_zret' eX0_isPlan_124 narrow_b1 h
    · have h := hs_ie c h
      refine pw_iconst eX0_isPlan_10 ki_0 ?_
      refine pw_istore_n eX0_isPlan_11 rfl (by decide) rfl rfl ?_
      refine pw_iconst eX0_isPlan_12 ki_0 ?_
      refine pw_istore eX0_isPlan_13 (by decide) rfl rfl ?_
      refine w_X0_isPlan_15 (fun e12 e13 σ14 h => ?_) FU x2 0 0 σ h
      refine pw_iload_n eX0_isPlan_107 rfl ?_
      refine pw_aload_n eX0_isPlan_108 rfl ?_
      refine pw_getI eX0_isPlan_109 fl_X0_49 ob_42 rfl ?_
      refine pw_icmp_le (tgt := 117) eX0_isPlan_112 (by decide) (fun c => ?_) (fun c => ?_)
      · have h := hs_it c h
        refine pw_iinc eX0_isPlan_117 (by decide) rfl ki_1 rfl rfl ?_
        refine pw_goto (pc' := 2) eX0_isPlan_120 (by decide) ?_
        exact pw_le (ih (e12 + 1) σ14 h) ⟨rfl, rfl, rfl, trivial⟩
      · have h := hs_ie c h
        refine pw_iconst eX0_isPlan_115 ki_0 ?_
        exact pw_zret' eX0_isPlan_116 narrow_b0 h
def f_X0_isPlan (σ : HS) : Option (Int32 × HS) :=
  f_X0_isPlan_2 FU 0 σ
set_option maxRecDepth 20000 in
theorem s_X0_isPlan {d : Nat} {σ : HS} {p : Int32 × HS} (h : f_X0_isPlan σ = some p) : hs_Spec (d + 3) yX0_isPlan cX0_isPlan 5 (some .boolean) [.ref 42, .ref 49] σ (some (.int p.1), p.2) := by
  refine hs_spec' (by decide +kernel) rfl (Nat.le_of_ble_eq_true rfl) ?_
  show PW RX0 cX0_isPlan 5 (hs_zM (d + 3) (some .boolean) (some (.int p.1), p.2)) 0 [some (.ref 42), some (.ref 49), none, none, none] [] σ
  rw [f_X0_isPlan] at h
  refine pw_iconst eX0_isPlan_0 ki_0 ?_
  refine pw_istore_n eX0_isPlan_1 rfl (by decide) rfl rfl ?_
  exact w_X0_isPlan_2 FU 0 σ h

def f_X0_lengthByFigures_9 : Nat → Int32 → Int32 → HS → Option (Int32 × HS)
  | 0, _, _, _ => none
  | n + 1, x2, x3, σ =>
    if x3 < 0 then
      (f_X0_isPlan σ).bind fun q1 =>
      if q1.1 = 0 then
        some ((-1), q1.2)
      else
        (f_X0_lengthOf 49 q1.2).bind fun q2 =>
        some (q2.1, q2.2)
    else
      (rmI x2 10).bind fun v3 =>
      (stI σ 49 6 x3 v3).bind fun σ4 =>
      (dvI x2 10).bind fun v5 =>
      f_X0_lengthByFigures_9 n v5 (x3 + (-1)) σ4
set_option maxRecDepth 20000 in
theorem w_X0_lengthByFigures_9 {d : Nat} {p : Int32 × HS} : ∀ (n : Nat) (x2 : Int32) (x3 : Int32) (σ : HS), f_X0_lengthByFigures_9 n x2 x3 σ = some p → PW RX0 cX0_lengthByFigures 4 (hs_zM (d + 4) (some .int) (some (.int p.1), p.2)) 9 [some (.ref 42), none, some (.int x2), some (.int x3)] [] σ := by
  intro n
  induction n with
  | zero =>
    intro x2 x3 σ h
    rw [f_X0_lengthByFigures_9] at h
    cases h
  | succ n ih =>
    intro x2 x3 σ h
    rw [f_X0_lengthByFigures_9] at h
    refine pw_iload_n eX0_lengthByFigures_9 rfl ?_
    refine pw_if_lt (tgt := 34) eX0_lengthByFigures_10 (by decide) (fun c => ?_) (fun c => ?_)
    · have h := hs_it c h
      refine pw_aload_n eX0_lengthByFigures_34 rfl ?_
      refine pw_aload_n eX0_lengthByFigures_35 rfl ?_
      refine pw_getR (r := 49) eX0_lengthByFigures_36 fl_X0_30 ob_42 rfl ?_
      obtain ⟨q1, g, h⟩ := hs_bind h
      refine pw_mV1i eX0_lengthByFigures_39 mv_X0_86 ob_42 (s_X0_isPlan g) (Nat.le_of_ble_eq_true rfl) ?_
      refine pw_if_eq (tgt := 56) eX0_lengthByFigures_42 (by decide) (fun c => ?_) (fun c => ?_)
      · have h := hs_it c h
        refine pw_iconst eX0_lengthByFigures_56 ki_m1 ?_
        exact pw_iret' eX0_lengthByFigures_57 h
      · have h := hs_ie c h
        refine pw_aload_n eX0_lengthByFigures_45 rfl ?_
        refine pw_aload_n eX0_lengthByFigures_46 rfl ?_
        refine pw_getR (r := 49) eX0_lengthByFigures_47 fl_X0_30 ob_42 rfl ?_
        obtain ⟨q2, g, h⟩ := hs_bind h
        refine pw_mV1i eX0_lengthByFigures_50 mv_X0_90 ob_42 (s_X0_lengthOf ai_49 g) (Nat.le_of_ble_eq_true rfl) ?_
        refine pw_goto (pc' := 57) eX0_lengthByFigures_53 (by decide) ?_
        exact pw_iret' eX0_lengthByFigures_57 h
    · have h := hs_ie c h
      refine pw_aload_n eX0_lengthByFigures_13 rfl ?_
      refine pw_getR (r := 49) eX0_lengthByFigures_14 fl_X0_30 ob_42 rfl ?_
      refine pw_iload_n eX0_lengthByFigures_17 rfl ?_
      refine pw_iload_n eX0_lengthByFigures_18 rfl ?_
      refine pw_bipush eX0_lengthByFigures_19 kb_10 ?_
      obtain ⟨v3, g, h⟩ := hs_bind h
      refine pw_irem' eX0_lengthByFigures_21 g ?_
      obtain ⟨σ4, g, h⟩ := hs_bind h
      refine pw_iast' eX0_lengthByFigures_22 ai_49 g ?_
      refine pw_iload_n eX0_lengthByFigures_23 rfl ?_
      refine pw_bipush eX0_lengthByFigures_24 kb_10 ?_
      obtain ⟨v5, g, h⟩ := hs_bind h
      refine pw_idiv' eX0_lengthByFigures_26 g ?_
      refine pw_istore_n eX0_lengthByFigures_27 rfl (by decide) rfl rfl ?_
      refine pw_iinc eX0_lengthByFigures_28 (by decide) rfl ki_m1 rfl rfl ?_
      refine pw_goto (pc' := 9) eX0_lengthByFigures_31 (by decide) ?_
      exact ih v5 (x3 + (-1)) σ4 h
def f_X0_lengthByFigures (x1 : Int32) (σ : HS) : Option (Int32 × HS) :=
  f_X0_lengthByFigures_9 FU x1 ((σ.1 42 7) - 1) σ
set_option maxRecDepth 20000 in
theorem s_X0_lengthByFigures {d : Nat} {x1 : Int32} {σ : HS} {p : Int32 × HS} (h : f_X0_lengthByFigures x1 σ = some p) : hs_Spec (d + 4) yX0_lengthByFigures cX0_lengthByFigures 4 (some .int) [.ref 42, .int x1] σ (some (.int p.1), p.2) := by
  refine hs_spec' (by decide +kernel) rfl (Nat.le_of_ble_eq_true rfl) ?_
  show PW RX0 cX0_lengthByFigures 4 (hs_zM (d + 4) (some .int) (some (.int p.1), p.2)) 0 [some (.ref 42), some (.int x1), none, none] [] σ
  rw [f_X0_lengthByFigures] at h
  refine pw_iload_n eX0_lengthByFigures_0 rfl ?_
  refine pw_istore_n eX0_lengthByFigures_1 rfl (by decide) rfl rfl ?_
  refine pw_aload_n eX0_lengthByFigures_2 rfl ?_
  refine pw_getI eX0_lengthByFigures_3 fl_X0_43 ob_42 rfl ?_
  refine pw_iconst eX0_lengthByFigures_6 ki_1 ?_
  refine pw_isub eX0_lengthByFigures_7 ?_
  refine pw_istore_n eX0_lengthByFigures_8 rfl (by decide) rfl rfl ?_
  exact pw_le (w_X0_lengthByFigures_9 FU x1 ((σ.1 42 7) - 1) σ h) ⟨rfl, rfl, rfl, trivial⟩
