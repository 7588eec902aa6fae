def f_X2_weigh_44 (k : Int32 → Int32 → HS → Option (HS)) : Nat → Int32 → Int32 → Int32 → HS → Option (HS)
  | 0, _, _, _, _ => none
  | n + 1, x2, x3, x4, σ =>
    if (σ.1 42 7) ≤ x4 then
      k x2 x3 σ
    else
      (f_X8_pair x4 x3 σ).bind fun q2 =>
      (ldI (q2.2.1 47) 36 q2.1).bind fun v3 =>
      if v3 = (-1) then
        f_X2_weigh_44 k n x2 x3 (x4 + 1) q2.2
      else
        (ldI (q2.2.1 53) 6 x3).bind fun v4 =>
        (stI q2.2 53 6 x3 (v4 + 1)).bind fun σ5 =>
        f_X2_weigh_44 k n x2 x3 (x4 + 1) σ5
set_option maxRecDepth 20000 in
theorem w_X2_weigh_44 {d : Nat} {p : HS} {k : Int32 → Int32 → HS → Option (HS)} (hk : ∀ (x2 : Int32) (x3 : Int32) (σ : HS), k x2 x3 σ = some p → PW RX2 cX2_weigh 5 (hs_zM (d + 2) none (none, p)) 84 [some (.ref 50), some (.ref 42), some (.int x2), some (.int x3), none] [] σ) : ∀ (n : Nat) (x2 : Int32) (x3 : Int32) (x4 : Int32) (σ : HS), f_X2_weigh_44 k n x2 x3 x4 σ = some p → PW RX2 cX2_weigh 5 (hs_zM (d + 2) none (none, p)) 44 [some (.ref 50), some (.ref 42), some (.int x2), some (.int x3), some (.int x4)] [] σ := by
  intro n
  induction n with
  | zero =>
    intro x2 x3 x4 σ h
    rw [f_X2_weigh_44] at h
    cases h
  | succ n ih =>
    intro x2 x3 x4 σ h
    rw [f_X2_weigh_44] at h
    refine pw_iload eX2_weigh_44 rfl ?_
    refine pw_aload_n eX2_weigh_46 rfl ?_
    refine pw_getI eX2_weigh_47 fl_X2_25 ob_42 rfl ?_
    refine pw_icmp_ge (tgt := 84) eX2_weigh_50 (by decide) (fun c => ?_) (fun c => ?_)
    · have h := hs_it c h
      exact pw_le (hk x2 x3 σ h) ⟨rfl, rfl, rfl, rfl, trivial⟩
    · have h := hs_ie c h
      refine pw_aload_n eX2_weigh_53 rfl ?_
      refine pw_getR (r := 47) eX2_weigh_54 fl_X2_48 ob_42 rfl ?_
      refine pw_iload eX2_weigh_57 rfl ?_
      refine pw_iload_n eX2_weigh_59 rfl ?_
      obtain ⟨q2, g, h⟩ := hs_bind h
      refine pw_mN2i eX2_weigh_60 mn_X2_51 (s_X8_pair g) (Nat.le_of_ble_eq_true rfl) ?_
      obtain ⟨v3, g, h⟩ := hs_bind h
      refine pw_iald' eX2_weigh_63 ai_47 g ?_
      refine pw_iconst eX2_weigh_64 ki_m1 ?_
      refine pw_icmp_eq (tgt := 78) eX2_weigh_65 (by decide) (fun c => ?_) (fun c => ?_)
      · have h := hs_it c h
        refine pw_iinc eX2_weigh_78 (by decide) rfl ki_1 rfl rfl ?_
        refine pw_goto (pc' := 44) eX2_weigh_81 (by decide) ?_
        exact ih x2 x3 (x4 + 1) q2.2 h
      · have h := hs_ie c h
        refine pw_aload_n eX2_weigh_68 rfl ?_
        refine pw_getR (r := 53) eX2_weigh_69 fl_X2_18 ob_50 rfl ?_
        refine pw_iload_n eX2_weigh_72 rfl ?_
        refine pw_dup2 eX2_weigh_73 rfl rfl ?_
        obtain ⟨v4, g, h⟩ := hs_bind h
        refine pw_iald' eX2_weigh_74 ai_53 g ?_
        refine pw_iconst eX2_weigh_75 ki_1 ?_
        refine pw_iadd eX2_weigh_76 ?_
        obtain ⟨σ5, g, h⟩ := hs_bind h
        refine pw_iast' eX2_weigh_77 ai_53 g ?_
        refine pw_iinc eX2_weigh_78 (by decide) rfl ki_1 rfl rfl ?_
        refine pw_goto (pc' := 44) eX2_weigh_81 (by decide) ?_
        exact ih x2 x3 (x4 + 1) σ5 h
def f_X2_weigh_2 : Nat → Int32 → Int32 → HS → Option (HS)
  | 0, _, _, _ => none
  | n + 1, x2, x3, σ =>
    if (σ.1 42 7) ≤ x3 then
      some σ
    else
      (stI σ 53 6 x3 0).bind fun σ1 =>
      if x2 = 0 then
        (ldI (σ1.1 45) 6 x3).bind fun v9 =>
        (stI σ1 53 6 x3 v9).bind fun σ10 =>
        f_X2_weigh_2 n x2 (x3 + 1) σ10
      else
        if x2 = 2 then
          f_X2_weigh_44 (fun e6 e7 σ8 =>
            f_X2_weigh_2 n e6 (e7 + 1) σ8) FU x2 x3 0 σ1
        else
          f_X2_weigh_2 n x2 (x3 + 1) σ1
set_option maxRecDepth 20000 in
theorem w_X2_weigh_2 {d : Nat} {p : HS} : ∀ (n : Nat) (x2 : Int32) (x3 : Int32) (σ : HS), f_X2_weigh_2 n x2 x3 σ = some p → PW RX2 cX2_weigh 5 (hs_zM (d + 2) none (none, p)) 2 [some (.ref 50), some (.ref 42), some (.int x2), some (.int x3), none] [] σ := by
  intro n
  induction n with
  | zero =>
    intro x2 x3 σ h
    rw [f_X2_weigh_2] at h
    cases h
  | succ n ih =>
    intro x2 x3 σ h
    rw [f_X2_weigh_2] at h
    refine pw_iload_n eX2_weigh_2 rfl ?_
    refine pw_aload_n eX2_weigh_3 rfl ?_
    refine pw_getI eX2_weigh_4 fl_X2_25 ob_42 rfl ?_
    refine pw_icmp_ge (tgt := 90) eX2_weigh_7 (by decide) (fun c => ?_) (fun c => ?_)
    · have h := hs_it c h
      exact pw_vret' eX2_weigh_90 h
    · have h := hs_ie c h
      refine pw_aload_n eX2_weigh_10 rfl ?_
      refine pw_getR (r := 53) eX2_weigh_11 fl_X2_18 ob_50 rfl ?_
      refine pw_iload_n eX2_weigh_14 rfl ?_
      refine pw_iconst eX2_weigh_15 ki_0 ?_
      obtain ⟨σ1, g, h⟩ := hs_bind h
      refine pw_iast' eX2_weigh_16 ai_53 g ?_
      refine pw_iload_n eX2_weigh_17 rfl ?_
      refine pw_if_ne (tgt := 36) eX2_weigh_18 (by decide) (fun c => ?_) (fun c => ?_)
      · have h := hs_ie c h
        refine pw_iload_n eX2_weigh_36 rfl ?_
        refine pw_iconst eX2_weigh_37 ki_2 ?_
        refine pw_icmp_ne (tgt := 84) eX2_weigh_38 (by decide) (fun c => ?_) (fun c => ?_)
        · have h := hs_ie c h
          refine pw_iinc eX2_weigh_84 (by decide) rfl ki_1 rfl rfl ?_
          refine pw_goto (pc' := 2) eX2_weigh_87 (by decide) ?_
          exact ih x2 (x3 + 1) σ1 h
        · have h := hs_it c h
          refine pw_iconst eX2_weigh_41 ki_0 ?_
          refine pw_istore eX2_weigh_42 (by decide) rfl rfl ?_
          refine w_X2_weigh_44 (fun e6 e7 σ8 h => ?_) FU x2 x3 0 σ1 h
          refine pw_iinc eX2_weigh_84 (by decide) rfl ki_1 rfl rfl ?_
          refine pw_goto (pc' := 2) eX2_weigh_87 (by decide) ?_
          exact ih e6 (e7 + 1) σ8 h
      · have h := hs_it c h
        refine pw_aload_n eX2_weigh_21 rfl ?_
        refine pw_getR (r := 53) eX2_weigh_22 fl_X2_18 ob_50 rfl ?_
        refine pw_iload_n eX2_weigh_25 rfl ?_
        refine pw_aload_n eX2_weigh_26 rfl ?_
        refine pw_getR (r := 45) eX2_weigh_27 fl_X2_45 ob_42 rfl ?_
        refine pw_iload_n eX2_weigh_30 rfl ?_
        obtain ⟨v9, g, h⟩ := hs_bind h
        refine pw_iald' eX2_weigh_31 ai_45 g ?_
        obtain ⟨σ10, g, h⟩ := hs_bind h
        refine pw_iast' eX2_weigh_32 ai_53 g ?_
        refine pw_goto (pc' := 84) eX2_weigh_33 (by decide) ?_
        refine pw_iinc eX2_weigh_84 (by decide) rfl ki_1 rfl rfl ?_
        refine pw_goto (pc' := 2) eX2_weigh_87 (by decide) ?_
        exact ih x2 (x3 + 1) σ10 h
def f_X2_weigh (x2 : Int32) (σ : HS) : Option (HS) :=
  f_X2_weigh_2 FU x2 0 σ
set_option maxRecDepth 20000 in
theorem s_X2_weigh {d : Nat} {x2 : Int32} {σ : HS} {p : HS} (h : f_X2_weigh x2 σ = some p) : hs_Spec (d + 2) yX2_weigh cX2_weigh 5 none [.ref 50, .ref 42, .int x2] σ (none, p) := by
  refine hs_spec' (by decide +kernel) rfl (Nat.le_of_ble_eq_true rfl) ?_
  show PW RX2 cX2_weigh 5 (hs_zM (d + 2) none (none, p)) 0 [some (.ref 50), some (.ref 42), some (.int x2), none, none] [] σ
  rw [f_X2_weigh] at h
  refine pw_iconst eX2_weigh_0 ki_0 ?_
  refine pw_istore_n eX2_weigh_1 rfl (by decide) rfl rfl ?_
  exact w_X2_weigh_2 FU x2 0 σ h

def f_X2_sort_9 (k : Int32 → Int32 → Int32 → HS → Option (HS)) : Nat → Int32 → Int32 → Int32 → HS → Option (HS)
  | 0, _, _, _, _ => none
  | n + 1, x1, x2, x3, σ =>
    if x3 ≤ 0 then
      k x1 x2 x3 σ
    else
      (ldI (σ.1 52) 6 (x3 - 1)).bind fun v1 =>
      (ldI (σ.1 53) 6 v1).bind fun v2 =>
      (ldI (σ.1 53) 6 x2).bind fun v3 =>
      if v3 ≤ v2 then
        k x1 x2 x3 σ
      else
        (ldI (σ.1 52) 6 (x3 - 1)).bind fun v4 =>
        (stI σ 52 6 x3 v4).bind fun σ5 =>
        f_X2_sort_9 k n x1 x2 (x3 + (-1)) σ5
set_option maxRecDepth 20000 in
theorem w_X2_sort_9 {d : Nat} {p : HS} {k : Int32 → Int32 → Int32 → HS → Option (HS)} (hk : ∀ (x1 : Int32) (x2 : Int32) (x3 : Int32) (σ : HS), k x1 x2 x3 σ = some p → PW RX2 cX2_sort 4 (hs_zM (d + 1) none (none, p)) 55 [some (.ref 50), some (.int x1), some (.int x2), some (.int x3)] [] σ) : ∀ (n : Nat) (x1 : Int32) (x2 : Int32) (x3 : Int32) (σ : HS), f_X2_sort_9 k n x1 x2 x3 σ = some p → PW RX2 cX2_sort 4 (hs_zM (d + 1) none (none, p)) 9 [some (.ref 50), some (.int x1), some (.int x2), some (.int x3)] [] σ := by
  intro n
  induction n with
  | zero =>
    intro x1 x2 x3 σ h
    rw [f_X2_sort_9] at h
    cases h
  | succ n ih =>
    intro x1 x2 x3 σ h
    rw [f_X2_sort_9] at h
    refine pw_iload_n eX2_sort_9 rfl ?_
    refine pw_if_le (tgt := 55) eX2_sort_10 (by decide) (fun c => ?_) (fun c => ?_)
    · have h := hs_it c h
      exact hk x1 x2 x3 σ h
    · have h := hs_ie c h
      refine pw_aload_n eX2_sort_13 rfl ?_
      refine pw_getR (r := 53) eX2_sort_14 fl_X2_18 ob_50 rfl ?_
      refine pw_aload_n eX2_sort_17 rfl ?_
      refine pw_getR (r := 52) eX2_sort_18 fl_X2_15 ob_50 rfl ?_
      refine pw_iload_n eX2_sort_21 rfl ?_
      refine pw_iconst eX2_sort_22 ki_1 ?_
      refine pw_isub eX2_sort_23 ?_
      obtain ⟨v1, g, h⟩ := hs_bind h
      refine pw_iald' eX2_sort_24 ai_52 g ?_
      obtain ⟨v2, g, h⟩ := hs_bind h
      refine pw_iald' eX2_sort_25 ai_53 g ?_
      refine pw_aload_n eX2_sort_26 rfl ?_
      refine pw_getR (r := 53) eX2_sort_27 fl_X2_18 ob_50 rfl ?_
      refine pw_iload_n eX2_sort_30 rfl ?_
      obtain ⟨v3, g, h⟩ := hs_bind h
      refine pw_iald' eX2_sort_31 ai_53 g ?_
      refine pw_icmp_ge (tgt := 55) eX2_sort_32 (by decide) (fun c => ?_) (fun c => ?_)
      · have h := hs_it c h
        exact hk x1 x2 x3 σ h
      · have h := hs_ie c h
        refine pw_aload_n eX2_sort_35 rfl ?_
        refine pw_getR (r := 52) eX2_sort_36 fl_X2_15 ob_50 rfl ?_
        refine pw_iload_n eX2_sort_39 rfl ?_
        refine pw_aload_n eX2_sort_40 rfl ?_
        refine pw_getR (r := 52) eX2_sort_41 fl_X2_15 ob_50 rfl ?_
        refine pw_iload_n eX2_sort_44 rfl ?_
        refine pw_iconst eX2_sort_45 ki_1 ?_
        refine pw_isub eX2_sort_46 ?_
        obtain ⟨v4, g, h⟩ := hs_bind h
        refine pw_iald' eX2_sort_47 ai_52 g ?_
        obtain ⟨σ5, g, h⟩ := hs_bind h
        refine pw_iast' eX2_sort_48 ai_52 g ?_
        refine pw_iinc eX2_sort_49 (by decide) rfl ki_m1 rfl rfl ?_
        refine pw_goto (pc' := 9) eX2_sort_52 (by decide) ?_
        exact ih x1 x2 (x3 + (-1)) σ5 h
def f_X2_sort_2 : Nat → Int32 → Int32 → HS → Option (HS)
  | 0, _, _, _ => none
  | n + 1, x1, x2, σ =>
    if x1 ≤ x2 then
      some σ
    else
      f_X2_sort_9 (fun e6 e7 e8 σ9 =>
        (stI σ9 52 6 e8 e7).bind fun σ10 =>
      f_X2_sort_2 n e6 (e7 + 1) σ10) FU x1 x2 x2 σ
set_option maxRecDepth 20000 in
theorem w_X2_sort_2 {d : Nat} {p : HS} : ∀ (n : Nat) (x1 : Int32) (x2 : Int32) (σ : HS), f_X2_sort_2 n x1 x2 σ = some p → PW RX2 cX2_sort 4 (hs_zM (d + 1) none (none, p)) 2 [some (.ref 50), some (.int x1), some (.int x2), none] [] σ := by
  intro n
  induction n with
  | zero =>
    intro x1 x2 σ h
    rw [f_X2_sort_2] at h
    cases h
  | succ n ih =>
    intro x1 x2 σ h
    rw [f_X2_sort_2] at h
    refine pw_iload_n eX2_sort_2 rfl ?_
    refine pw_iload_n eX2_sort_3 rfl ?_
    refine pw_icmp_ge (tgt := 68) eX2_sort_4 (by decide) (fun c => ?_) (fun c => ?_)
    · have h := hs_it c h
      exact pw_vret' eX2_sort_68 h
    · have h := hs_ie c h
      refine pw_iload_n eX2_sort_7 rfl ?_
      refine pw_istore_n eX2_sort_8 rfl (by decide) rfl rfl ?_
      refine w_X2_sort_9 (fun e6 e7 e8 σ9 h => ?_) FU x1 x2 x2 σ h
      refine pw_aload_n eX2_sort_55 rfl ?_
      refine pw_getR (r := 52) eX2_sort_56 fl_X2_15 ob_50 rfl ?_
      refine pw_iload_n eX2_sort_59 rfl ?_
      refine pw_iload_n eX2_sort_60 rfl ?_
      obtain ⟨σ10, g, h⟩ := hs_bind h
      refine pw_iast' eX2_sort_61 ai_52 g ?_
      refine pw_iinc eX2_sort_62 (by decide) rfl ki_1 rfl rfl ?_
      refine pw_goto (pc' := 2) eX2_sort_65 (by decide) ?_
      exact pw_le (ih e6 (e7 + 1) σ10 h) ⟨rfl, rfl, rfl, trivial⟩
def f_X2_sort (x1 : Int32) (σ : HS) : Option (HS) :=
  f_X2_sort_2 FU x1 0 σ
set_option maxRecDepth 20000 in
theorem s_X2_sort {d : Nat} {x1 : Int32} {σ : HS} {p : HS} (h : f_X2_sort x1 σ = some p) : hs_Spec (d + 1) yX2_sort cX2_sort 4 none [.ref 50, .int x1] σ (none, p) := by
  refine hs_spec' (by decide +kernel) rfl (Nat.le_of_ble_eq_true rfl) ?_
  show PW RX2 cX2_sort 4 (hs_zM (d + 1) none (none, p)) 0 [some (.ref 50), some (.int x1), none, none] [] σ
  rw [f_X2_sort] at h
  refine pw_iconst eX2_sort_0 ki_0 ?_
  refine pw_istore_n eX2_sort_1 rfl (by decide) rfl rfl ?_
  exact w_X2_sort_2 FU x1 0 σ h

def f_X2_isReady_3 : Nat → Int32 → Int32 → Int32 → HS → Option (Int32 × HS)
  | 0, _, _, _, _ => none
  | n + 1, x2, x3, x4, σ =>
    if (σ.1 42 7) ≤ x4 then
      some (1, σ)
    else
      (f_X8_pair x2 x4 σ).bind fun q1 =>
      (ldI (q1.2.1 47) 36 q1.1).bind fun v2 =>
      if v2 = (-1) then
        f_X2_isReady_3 n x2 x3 (x4 + 1) q1.2
      else
        (ldI (q1.2.1 51) 6 x4).bind fun v3 =>
        if v3 = (-1) then
          some (0, q1.2)
        else
          (ldI (q1.2.1 51) 6 x4).bind fun v4 =>
          if (v4 + v2) ≤ x3 then
            f_X2_isReady_3 n x2 x3 (x4 + 1) q1.2
          else
            some (0, q1.2)
set_option maxRecDepth 20000 in
theorem w_X2_isReady_3 {d : Nat} {p : Int32 × HS} : ∀ (n : Nat) (x2 : Int32) (x3 : Int32) (x4 : Int32) (σ : HS), f_X2_isReady_3 n x2 x3 x4 σ = some p → PW RX2 cX2_isReady 6 (hs_zM (d + 2) (some .boolean) (some (.int p.1), p.2)) 3 [some (.ref 50), some (.ref 42), some (.int x2), some (.int x3), some (.int x4), none] [] σ := by
  intro n
  induction n with
  | zero =>
    intro x2 x3 x4 σ h
    rw [f_X2_isReady_3] at h
    cases h
  | succ n ih =>
    intro x2 x3 x4 σ h
    rw [f_X2_isReady_3] at h
    refine pw_iload eX2_isReady_3 rfl ?_
    refine pw_aload_n eX2_isReady_5 rfl ?_
    refine pw_getI eX2_isReady_6 fl_X2_25 ob_42 rfl ?_
    refine pw_icmp_ge (tgt := 64) eX2_isReady_9 (by decide) (fun c => ?_) (fun c => ?_)
    · have h := hs_it c h
      refine pw_iconst eX2_isReady_64 ki_1 ?_
      exact pw_zret' eX2_isReady_65 narrow_b1 h
    · have h := hs_ie c h
      refine pw_aload_n eX2_isReady_12 rfl ?_
      refine pw_getR (r := 47) eX2_isReady_13 fl_X2_48 ob_42 rfl ?_
      refine pw_iload_n eX2_isReady_16 rfl ?_
      refine pw_iload eX2_isReady_17 rfl ?_
      obtain ⟨q1, g, h⟩ := hs_bind h
      refine pw_mN2i eX2_isReady_19 mn_X2_51 (s_X8_pair g) (Nat.le_of_ble_eq_true rfl) ?_
      obtain ⟨v2, g, h⟩ := hs_bind h
      refine pw_iald' eX2_isReady_22 ai_47 g ?_
      refine pw_istore eX2_isReady_23 (by decide) rfl rfl ?_
      refine pw_iload eX2_isReady_25 rfl ?_
      refine pw_iconst eX2_isReady_27 ki_m1 ?_
      refine pw_icmp_eq (tgt := 58) eX2_isReady_28 (by decide) (fun c => ?_) (fun c => ?_)
      · have h := hs_it c h
        refine pw_iinc eX2_isReady_58 (by decide) rfl ki_1 rfl rfl ?_
        refine pw_goto (pc' := 3) eX2_isReady_61 (by decide) ?_
        exact pw_le (ih x2 x3 (x4 + 1) q1.2 h) ⟨rfl, rfl, rfl, rfl, rfl, trivial⟩
      · have h := hs_ie c h
        refine pw_aload_n eX2_isReady_31 rfl ?_
        refine pw_getR (r := 51) eX2_isReady_32 fl_X2_9 ob_50 rfl ?_
        refine pw_iload eX2_isReady_35 rfl ?_
        obtain ⟨v3, g, h⟩ := hs_bind h
        refine pw_iald' eX2_isReady_37 ai_51 g ?_
        refine pw_iconst eX2_isReady_38 ki_m1 ?_
        refine pw_icmp_eq (tgt := 56) eX2_isReady_39 (by decide) (fun c => ?_) (fun c => ?_)
        · have h := hs_it c h
          refine pw_iconst eX2_isReady_56 ki_0 ?_
          exact pw_zret' eX2_isReady_57 narrow_b0 h
        · have h := hs_ie c h
          refine pw_aload_n eX2_isReady_42 rfl ?_
          refine pw_getR (r := 51) eX2_isReady_43 fl_X2_9 ob_50 rfl ?_
          refine pw_iload eX2_isReady_46 rfl ?_
          obtain ⟨v4, g, h⟩ := hs_bind h
          refine pw_iald' eX2_isReady_48 ai_51 g ?_
          refine pw_iload eX2_isReady_49 rfl ?_
          refine pw_iadd eX2_isReady_51 ?_
          refine pw_iload_n eX2_isReady_52 rfl ?_
          refine pw_icmp_le (tgt := 58) eX2_isReady_53 (by decide) (fun c => ?_) (fun c => ?_)
          · have h := hs_it c h
            refine pw_iinc eX2_isReady_58 (by decide) rfl ki_1 rfl rfl ?_
            refine pw_goto (pc' := 3) eX2_isReady_61 (by decide) ?_
            exact pw_le (ih x2 x3 (x4 + 1) q1.2 h) ⟨rfl, rfl, rfl, rfl, rfl, trivial⟩
          · have h := hs_ie c h
            refine pw_iconst eX2_isReady_56 ki_0 ?_
            exact pw_zret' eX2_isReady_57 narrow_b0 h
def f_X2_isReady (x2 : Int32) (x3 : Int32) (σ : HS) : Option (Int32 × HS) :=
  f_X2_isReady_3 FU x2 x3 0 σ
set_option maxRecDepth 20000 in
theorem s_X2_isReady {d : Nat} {x2 : Int32} {x3 : Int32} {σ : HS} {p : Int32 × HS} (h : f_X2_isReady x2 x3 σ = some p) : hs_Spec (d + 2) yX2_isReady cX2_isReady 6 (some .boolean) [.ref 50, .ref 42, .int x2, .int x3] σ (some (.int p.1), p.2) := by
  refine hs_spec' (by decide +kernel) rfl (Nat.le_of_ble_eq_true rfl) ?_
  show PW RX2 cX2_isReady 6 (hs_zM (d + 2) (some .boolean) (some (.int p.1), p.2)) 0 [some (.ref 50), some (.ref 42), some (.int x2), some (.int x3), none, none] [] σ
  rw [f_X2_isReady] at h
  refine pw_iconst eX2_isReady_0 ki_0 ?_
  refine pw_istore eX2_isReady_1 (by decide) rfl rfl ?_
  exact w_X2_isReady_3 FU x2 x3 0 σ h

def f_X2_isFree_3 : Nat → Int32 → Int32 → Int32 → HS → Option (Int32 × HS)
  | 0, _, _, _, _ => none
  | n + 1, x2, x3, x4, σ =>
    if (σ.1 42 7) ≤ x4 then
      some (1, σ)
    else
      (ldI (σ.1 51) 6 x4).bind fun v1 =>
      if v1 = (-1) then
        f_X2_isFree_3 n x2 x3 (x4 + 1) σ
      else
        (ldI (σ.1 51) 6 x4).bind fun v2 =>
        (f_X0_clashes x4 v2 x2 x3 σ).bind fun q3 =>
        if q3.1 = 0 then
          f_X2_isFree_3 n x2 x3 (x4 + 1) q3.2
        else
          some (0, q3.2)
set_option maxRecDepth 20000 in
theorem w_X2_isFree_3 {d : Nat} {p : Int32 × HS} : ∀ (n : Nat) (x2 : Int32) (x3 : Int32) (x4 : Int32) (σ : HS), f_X2_isFree_3 n x2 x3 x4 σ = some p → PW RX2 cX2_isFree 5 (hs_zM (d + 3) (some .boolean) (some (.int p.1), p.2)) 3 [some (.ref 50), some (.ref 42), some (.int x2), some (.int x3), some (.int x4)] [] σ := by
  intro n
  induction n with
  | zero =>
    intro x2 x3 x4 σ h
    rw [f_X2_isFree_3] at h
    cases h
  | succ n ih =>
    intro x2 x3 x4 σ h
    rw [f_X2_isFree_3] at h
    refine pw_iload eX2_isFree_3 rfl ?_
    refine pw_aload_n eX2_isFree_5 rfl ?_
    refine pw_getI eX2_isFree_6 fl_X2_25 ob_42 rfl ?_
    refine pw_icmp_ge (tgt := 49) eX2_isFree_9 (by decide) (fun c => ?_) (fun c => ?_)
    · have h := hs_it c h
      refine pw_iconst eX2_isFree_49 ki_1 ?_
      exact pw_zret' eX2_isFree_50 narrow_b1 h
    · have h := hs_ie c h
      refine pw_aload_n eX2_isFree_12 rfl ?_
      refine pw_getR (r := 51) eX2_isFree_13 fl_X2_9 ob_50 rfl ?_
      refine pw_iload eX2_isFree_16 rfl ?_
      obtain ⟨v1, g, h⟩ := hs_bind h
      refine pw_iald' eX2_isFree_18 ai_51 g ?_
      refine pw_iconst eX2_isFree_19 ki_m1 ?_
      refine pw_icmp_eq (tgt := 43) eX2_isFree_20 (by decide) (fun c => ?_) (fun c => ?_)
      · have h := hs_it c h
        refine pw_iinc eX2_isFree_43 (by decide) rfl ki_1 rfl rfl ?_
        refine pw_goto (pc' := 3) eX2_isFree_46 (by decide) ?_
        exact ih x2 x3 (x4 + 1) σ h
      · have h := hs_ie c h
        refine pw_aload_n eX2_isFree_23 rfl ?_
        refine pw_iload eX2_isFree_24 rfl ?_
        refine pw_aload_n eX2_isFree_26 rfl ?_
        refine pw_getR (r := 51) eX2_isFree_27 fl_X2_9 ob_50 rfl ?_
        refine pw_iload eX2_isFree_30 rfl ?_
        obtain ⟨v2, g, h⟩ := hs_bind h
        refine pw_iald' eX2_isFree_32 ai_51 g ?_
        refine pw_iload_n eX2_isFree_33 rfl ?_
        refine pw_iload_n eX2_isFree_34 rfl ?_
        obtain ⟨q3, g, h⟩ := hs_bind h
        refine pw_mV4i eX2_isFree_35 mv_X2_65 ob_42 (s_X0_clashes g) (Nat.le_of_ble_eq_true rfl) ?_
        refine pw_if_eq (tgt := 43) eX2_isFree_38 (by decide) (fun c => ?_) (fun c => ?_)
        · have h := hs_it c h
          refine pw_iinc eX2_isFree_43 (by decide) rfl ki_1 rfl rfl ?_
          refine pw_goto (pc' := 3) eX2_isFree_46 (by decide) ?_
          exact ih x2 x3 (x4 + 1) q3.2 h
        · have h := hs_ie c h
          refine pw_iconst eX2_isFree_41 ki_0 ?_
          exact pw_zret' eX2_isFree_42 narrow_b0 h
def f_X2_isFree (x2 : Int32) (x3 : Int32) (σ : HS) : Option (Int32 × HS) :=
  f_X2_isFree_3 FU x2 x3 0 σ
set_option maxRecDepth 20000 in
theorem s_X2_isFree {d : Nat} {x2 : Int32} {x3 : Int32} {σ : HS} {p : Int32 × HS} (h : f_X2_isFree x2 x3 σ = some p) : hs_Spec (d + 3) yX2_isFree cX2_isFree 5 (some .boolean) [.ref 50, .ref 42, .int x2, .int x3] σ (some (.int p.1), p.2) := by
  refine hs_spec' (by decide +kernel) rfl (Nat.le_of_ble_eq_true rfl) ?_
  show PW RX2 cX2_isFree 5 (hs_zM (d + 3) (some .boolean) (some (.int p.1), p.2)) 0 [some (.ref 50), some (.ref 42), some (.int x2), some (.int x3), none] [] σ
  rw [f_X2_isFree] at h
  refine pw_iconst eX2_isFree_0 ki_0 ?_
  refine pw_istore eX2_isFree_1 (by decide) rfl rfl ?_
  exact w_X2_isFree_3 FU x2 x3 0 σ h

def f_X2_beginAt_5 : Nat → Int32 → Int32 → Int32 → HS → Option (Int32 × HS)
  | 0, _, _, _, _ => none
  | n + 1, x2, x3, x4, σ =>
    if (σ.1 42 7) ≤ x4 then
      some (x3, σ)
    else
      if (σ.1 42 8) ≤ x3 then
        some (x3, σ)
      else
        (ldI (σ.1 52) 6 x4).bind fun v1 =>
        (ldI (σ.1 51) 6 v1).bind fun v2 =>
        if v2 = (-1) then
          (f_X2_isReady v1 x2 σ).bind fun q3 =>
          if q3.1 = 0 then
            f_X2_beginAt_5 n x2 x3 (x4 + 1) q3.2
          else
            (f_X2_isFree v1 x2 q3.2).bind fun q4 =>
            if q4.1 = 0 then
              f_X2_beginAt_5 n x2 x3 (x4 + 1) q4.2
            else
              (stI q4.2 51 6 v1 x2).bind fun σ5 =>
              f_X2_beginAt_5 n x2 (x3 + 1) (x4 + 1) σ5
        else
          f_X2_beginAt_5 n x2 x3 (x4 + 1) σ
set_option maxRecDepth 20000 in
theorem w_X2_beginAt_5 {d : Nat} {p : Int32 × HS} : ∀ (n : Nat) (x2 : Int32) (x3 : Int32) (x4 : Int32) (σ : HS), f_X2_beginAt_5 n x2 x3 x4 σ = some p → PW RX2 cX2_beginAt 6 (hs_zM (d + 4) (some .int) (some (.int p.1), p.2)) 5 [some (.ref 50), some (.ref 42), some (.int x2), some (.int x3), some (.int x4), none] [] σ := by
  intro n
  induction n with
  | zero =>
    intro x2 x3 x4 σ h
    rw [f_X2_beginAt_5] at h
    cases h
  | succ n ih =>
    intro x2 x3 x4 σ h
    rw [f_X2_beginAt_5] at h
    refine pw_iload eX2_beginAt_5 rfl ?_
    refine pw_aload_n eX2_beginAt_7 rfl ?_
    refine pw_getI eX2_beginAt_8 fl_X2_25 ob_42 rfl ?_
    refine pw_icmp_ge (tgt := 81) eX2_beginAt_11 (by decide) (fun c => ?_) (fun c => ?_)
    · have h := hs_it c h
      refine pw_iload_n eX2_beginAt_81 rfl ?_
      exact pw_iret' eX2_beginAt_82 h
    · have h := hs_ie c h
      refine pw_iload_n eX2_beginAt_14 rfl ?_
      refine pw_aload_n eX2_beginAt_15 rfl ?_
      refine pw_getI eX2_beginAt_16 fl_X2_55 ob_42 rfl ?_
      refine pw_icmp_ge (tgt := 81) eX2_beginAt_19 (by decide) (fun c => ?_) (fun c => ?_)
      · have h := hs_it c h
        refine pw_iload_n eX2_beginAt_81 rfl ?_
        exact pw_iret' eX2_beginAt_82 h
      · have h := hs_ie c h
        refine pw_aload_n eX2_beginAt_22 rfl ?_
        refine pw_getR (r := 52) eX2_beginAt_23 fl_X2_15 ob_50 rfl ?_
        refine pw_iload eX2_beginAt_26 rfl ?_
        obtain ⟨v1, g, h⟩ := hs_bind h
        refine pw_iald' eX2_beginAt_28 ai_52 g ?_
        refine pw_istore eX2_beginAt_29 (by decide) rfl rfl ?_
        refine pw_aload_n eX2_beginAt_31 rfl ?_
        refine pw_getR (r := 51) eX2_beginAt_32 fl_X2_9 ob_50 rfl ?_
        refine pw_iload eX2_beginAt_35 rfl ?_
        obtain ⟨v2, g, h⟩ := hs_bind h
        refine pw_iald' eX2_beginAt_37 ai_51 g ?_
        refine pw_iconst eX2_beginAt_38 ki_m1 ?_
        refine pw_icmp_ne (tgt := 75) eX2_beginAt_39 (by decide) (fun c => ?_) (fun c => ?_)
        · have h := hs_ie c h
          refine pw_iinc eX2_beginAt_75 (by decide) rfl ki_1 rfl rfl ?_
          refine pw_goto (pc' := 5) eX2_beginAt_78 (by decide) ?_
          exact pw_le (ih x2 x3 (x4 + 1) σ h) ⟨rfl, rfl, rfl, rfl, rfl, trivial⟩
        · have h := hs_it c h
          refine pw_aload_n eX2_beginAt_42 rfl ?_
          refine pw_aload_n eX2_beginAt_43 rfl ?_
          refine pw_iload eX2_beginAt_44 rfl ?_
          refine pw_iload_n eX2_beginAt_46 rfl ?_
          obtain ⟨q3, g, h⟩ := hs_bind h
          refine pw_mV3i eX2_beginAt_47 mv_X2_58 ob_50 (s_X2_isReady g) (Nat.le_of_ble_eq_true rfl) ?_
          refine pw_if_eq (tgt := 75) eX2_beginAt_50 (by decide) (fun c => ?_) (fun c => ?_)
          · have h := hs_it c h
            refine pw_iinc eX2_beginAt_75 (by decide) rfl ki_1 rfl rfl ?_
            refine pw_goto (pc' := 5) eX2_beginAt_78 (by decide) ?_
            exact pw_le (ih x2 x3 (x4 + 1) q3.2 h) ⟨rfl, rfl, rfl, rfl, rfl, trivial⟩
          · have h := hs_ie c h
            refine pw_aload_n eX2_beginAt_53 rfl ?_
            refine pw_aload_n eX2_beginAt_54 rfl ?_
            refine pw_iload eX2_beginAt_55 rfl ?_
            refine pw_iload_n eX2_beginAt_57 rfl ?_
            obtain ⟨q4, g, h⟩ := hs_bind h
            refine pw_mV3i eX2_beginAt_58 mv_X2_62 ob_50 (s_X2_isFree g) (Nat.le_of_ble_eq_true rfl) ?_
            refine pw_if_eq (tgt := 75) eX2_beginAt_61 (by decide) (fun c => ?_) (fun c => ?_)
            · have h := hs_it c h
              refine pw_iinc eX2_beginAt_75 (by decide) rfl ki_1 rfl rfl ?_
              refine pw_goto (pc' := 5) eX2_beginAt_78 (by decide) ?_
              exact pw_le (ih x2 x3 (x4 + 1) q4.2 h) ⟨rfl, rfl, rfl, rfl, rfl, trivial⟩
            · have h := hs_ie c h
              refine pw_aload_n eX2_beginAt_64 rfl ?_
              refine pw_getR (r := 51) eX2_beginAt_65 fl_X2_9 ob_50 rfl ?_
              refine pw_iload eX2_beginAt_68 rfl ?_
              refine pw_iload_n eX2_beginAt_70 rfl ?_
              obtain ⟨σ5, g, h⟩ := hs_bind h
              refine pw_iast' eX2_beginAt_71 ai_51 g ?_
              refine pw_iinc eX2_beginAt_72 (by decide) rfl ki_1 rfl rfl ?_
              refine pw_iinc eX2_beginAt_75 (by decide) rfl ki_1 rfl rfl ?_
              refine pw_goto (pc' := 5) eX2_beginAt_78 (by decide) ?_
              exact pw_le (ih x2 (x3 + 1) (x4 + 1) σ5 h) ⟨rfl, rfl, rfl, rfl, rfl, trivial⟩
def f_X2_beginAt (x2 : Int32) (σ : HS) : Option (Int32 × HS) :=
  f_X2_beginAt_5 FU x2 0 0 σ
set_option maxRecDepth 20000 in
theorem s_X2_beginAt {d : Nat} {x2 : Int32} {σ : HS} {p : Int32 × HS} (h : f_X2_beginAt x2 σ = some p) : hs_Spec (d + 4) yX2_beginAt cX2_beginAt 6 (some .int) [.ref 50, .ref 42, .int x2] σ (some (.int p.1), p.2) := by
  refine hs_spec' (by decide +kernel) rfl (Nat.le_of_ble_eq_true rfl) ?_
  show PW RX2 cX2_beginAt 6 (hs_zM (d + 4) (some .int) (some (.int p.1), p.2)) 0 [some (.ref 50), some (.ref 42), some (.int x2), none, none, none] [] σ
  rw [f_X2_beginAt] at h
  refine pw_iconst eX2_beginAt_0 ki_0 ?_
  refine pw_istore_n eX2_beginAt_1 rfl (by decide) rfl rfl ?_
  refine pw_iconst eX2_beginAt_2 ki_0 ?_
  refine pw_istore eX2_beginAt_3 (by decide) rfl rfl ?_
  exact w_X2_beginAt_5 FU x2 0 0 σ h

def f_X2_run_30 : Nat → Int32 → Int32 → HS → Option (HS)
  | 0, _, _, _ => none
  | n + 1, x3, x4, σ =>
    if (25 : Int32) < x4 then
      some σ
    else
      if x3 ≤ 0 then
        some σ
      else
        (f_X2_beginAt x4 σ).bind fun q4 =>
        f_X2_run_30 n (x3 - q4.1) (x4 + 1) q4.2
set_option maxRecDepth 20000 in
theorem w_X2_run_30 {d : Nat} {p : HS} : ∀ (n : Nat) (x3 : Int32) (x4 : Int32) (σ : HS), f_X2_run_30 n x3 x4 σ = some p → PW RX2 cX2_run 5 (hs_zM (d + 5) none (none, p)) 30 [some (.ref 50), some (.ref 42), none, some (.int x3), some (.int x4)] [] σ := by
  intro n
  induction n with
  | zero =>
    intro x3 x4 σ h
    rw [f_X2_run_30] at h
    cases h
  | succ n ih =>
    intro x3 x4 σ h
    rw [f_X2_run_30] at h
    refine pw_iload eX2_run_30 rfl ?_
    refine pw_bipush eX2_run_32 kb_25 ?_
    refine pw_icmp_gt (tgt := 57) eX2_run_34 (by decide) (fun c => ?_) (fun c => ?_)
    · have h := hs_it c h
      exact pw_vret' eX2_run_57 h
    · have h := hs_ie c h
      refine pw_iload_n eX2_run_37 rfl ?_
      refine pw_if_le (tgt := 57) eX2_run_38 (by decide) (fun c => ?_) (fun c => ?_)
      · have h := hs_it c h
        exact pw_vret' eX2_run_57 h
      · have h := hs_ie c h
        refine pw_iload_n eX2_run_41 rfl ?_
        refine pw_aload_n eX2_run_42 rfl ?_
        refine pw_aload_n eX2_run_43 rfl ?_
        refine pw_iload eX2_run_44 rfl ?_
        obtain ⟨q4, g, h⟩ := hs_bind h
        refine pw_mV2i eX2_run_46 mv_X2_41 ob_50 (s_X2_beginAt g) (Nat.le_of_ble_eq_true rfl) ?_
        refine pw_isub eX2_run_49 ?_
        refine pw_istore_n eX2_run_50 rfl (by decide) rfl rfl ?_
        refine pw_iinc eX2_run_51 (by decide) rfl ki_1 rfl rfl ?_
        refine pw_goto (pc' := 30) eX2_run_54 (by decide) ?_
        exact ih (x3 - q4.1) (x4 + 1) q4.2 h
def f_X2_run (x2 : Int32) (σ : HS) : Option (HS) :=
  (f_X2_weigh x2 σ).bind fun σ1 =>
  (f_X2_sort (σ1.1 42 7) σ1).bind fun σ2 =>
  (f_J7_fill_53178 (-1) σ2).bind fun σ3 =>
  f_X2_run_30 FU (σ3.1 42 7) 0 σ3
set_option maxRecDepth 20000 in
theorem s_X2_run {d : Nat} {x2 : Int32} {σ : HS} {p : HS} (h : f_X2_run x2 σ = some p) : hs_Spec (d + 5) yX2_run cX2_run 5 none [.ref 50, .ref 42, .int x2] σ (none, p) := by
  refine hs_spec' (by decide +kernel) rfl (Nat.le_of_ble_eq_true rfl) ?_
  show PW RX2 cX2_run 5 (hs_zM (d + 5) none (none, p)) 0 [some (.ref 50), some (.ref 42), some (.int x2), none, none] [] σ
  rw [f_X2_run] at h
  refine pw_aload_n eX2_run_0 rfl ?_
  refine pw_aload_n eX2_run_1 rfl ?_
  refine pw_iload_n eX2_run_2 rfl ?_
  obtain ⟨σ1, g, h⟩ := hs_bind h
  refine pw_mV2v eX2_run_3 mv_X2_21 ob_50 (s_X2_weigh g) (Nat.le_of_ble_eq_true rfl) ?_
  refine pw_aload_n eX2_run_6 rfl ?_
  refine pw_aload_n eX2_run_7 rfl ?_
  refine pw_getI eX2_run_8 fl_X2_25 ob_42 rfl ?_
  obtain ⟨σ2, g, h⟩ := hs_bind h
  refine pw_mV1v eX2_run_11 mv_X2_31 ob_50 (s_X2_sort g) (Nat.le_of_ble_eq_true rfl) ?_
  refine pw_aload_n eX2_run_14 rfl ?_
  refine pw_getR (r := 51) eX2_run_15 fl_X2_9 ob_50 rfl ?_
  refine pw_iconst eX2_run_18 ki_m1 ?_
  obtain ⟨σ3, g, h⟩ := hs_bind h
  refine pw_mS2v eX2_run_19 ms_X2_35 (s_J7_fill_53178 g) (Nat.le_of_ble_eq_true rfl) ?_
  refine pw_aload_n eX2_run_22 rfl ?_
  refine pw_getI eX2_run_23 fl_X2_25 ob_42 rfl ?_
  refine pw_istore_n eX2_run_26 rfl (by decide) rfl rfl ?_
  refine pw_iconst eX2_run_27 ki_0 ?_
  refine pw_istore eX2_run_28 (by decide) rfl rfl ?_
  exact pw_le (w_X2_run_30 FU (σ3.1 42 7) 0 σ3 h) ⟨rfl, rfl, rfl, rfl, trivial⟩
