def f_X9_rank_25 : Nat → Int32 → Int32 → Int32 → HS → Option (Int32 × HS)
  | 0, _, _, _, _ => none
  | n + 1, x2, x3, x4, σ =>
    (ldI (σ.1 68) 66 23).bind fun v1 =>
    if v1 ≤ x4 then
      some (x3, σ)
    else
      (f_X9_counts x4 x2 σ).bind fun q2 =>
      if q2.1 = 0 then
        f_X9_rank_25 n x2 (x3 + 0) (x4 + 1) q2.2
      else
        f_X9_rank_25 n x2 (x3 + 1) (x4 + 1) q2.2
set_option maxRecDepth 20000 in
theorem w_X9_rank_25 {d : Nat} {p : Int32 × HS} : ∀ (n : Nat) (x2 : Int32) (x3 : Int32) (x4 : Int32) (σ : HS), f_X9_rank_25 n x2 x3 x4 σ = some p → PW RX9 cX9_rank 5 (hs_zM (d + 3) (some .int) (some (.int p.1), p.2)) 25 [some (.ref 67), none, some (.int x2), some (.int x3), some (.int x4)] [] σ := by
  intro n
  induction n with
  | zero =>
    intro x2 x3 x4 σ h
    rw [f_X9_rank_25] at h
    cases h
  | succ n ih =>
    intro x2 x3 x4 σ h
    rw [f_X9_rank_25] at h
    refine pw_iload eX9_rank_25 rfl ?_
    refine pw_aload_n eX9_rank_27 rfl ?_
    refine pw_getR (r := 68) eX9_rank_28 fl_X9_7 ob_67 rfl ?_
    refine pw_bipush eX9_rank_31 kb_23 ?_
    obtain ⟨v1, g, h⟩ := hs_bind h
    refine pw_iald' eX9_rank_33 ai_68 g ?_
    refine pw_icmp_ge (tgt := 61) eX9_rank_34 (by decide) (fun c => ?_) (fun c => ?_)
    · have h := hs_it c h
      refine pw_iload_n eX9_rank_61 rfl ?_
      exact pw_iret' eX9_rank_62 h
    · have h := hs_ie c h
      refine pw_iload_n eX9_rank_37 rfl ?_
      refine pw_aload_n eX9_rank_38 rfl ?_
      refine pw_iload eX9_rank_39 rfl ?_
      refine pw_iload_n eX9_rank_41 rfl ?_
      obtain ⟨q2, g, h⟩ := hs_bind h
      refine pw_mV2i eX9_rank_42 mv_X9_159 ob_67 (s_X9_counts g) (Nat.le_of_ble_eq_true rfl) ?_
      refine pw_if_eq (tgt := 52) eX9_rank_45 (by decide) (fun c => ?_) (fun c => ?_)
      · have h := hs_it c h
        refine pw_iconst eX9_rank_52 ki_0 ?_
        refine pw_iadd eX9_rank_53 ?_
        refine pw_istore_n eX9_rank_54 rfl (by decide) rfl rfl ?_
        refine pw_iinc eX9_rank_55 (by decide) rfl ki_1 rfl rfl ?_
        refine pw_goto (pc' := 25) eX9_rank_58 (by decide) ?_
        exact ih x2 (x3 + 0) (x4 + 1) q2.2 h
      · have h := hs_ie c h
        refine pw_iconst eX9_rank_48 ki_1 ?_
        refine pw_goto (pc' := 53) eX9_rank_49 (by decide) ?_
        refine pw_iadd eX9_rank_53 ?_
        refine pw_istore_n eX9_rank_54 rfl (by decide) rfl rfl ?_
        refine pw_iinc eX9_rank_55 (by decide) rfl ki_1 rfl rfl ?_
        refine pw_goto (pc' := 25) eX9_rank_58 (by decide) ?_
        exact ih x2 (x3 + 1) (x4 + 1) q2.2 h
def f_X9_rank (x1 : Int32) (x2 : Int32) (σ : HS) : Option (Int32 × HS) :=
  if (2 : Int32) ≤ x1 then
    f_X9_rank_25 FU x2 0 0 σ
  else
    if x1 = 0 then
      (ldI (σ.1 76) 6 x2).bind fun v3 =>
      some (v3, σ)
    else
      some (0, σ)
set_option maxRecDepth 20000 in
theorem s_X9_rank {d : Nat} {x1 : Int32} {x2 : Int32} {σ : HS} {p : Int32 × HS} (h : f_X9_rank x1 x2 σ = some p) : hs_Spec (d + 3) yX9_rank cX9_rank 5 (some .int) [.ref 67, .int x1, .int x2] σ (some (.int p.1), p.2) := by
  refine hs_spec' (by decide +kernel) rfl (Nat.le_of_ble_eq_true rfl) ?_
  show PW RX9 cX9_rank 5 (hs_zM (d + 3) (some .int) (some (.int p.1), p.2)) 0 [some (.ref 67), some (.int x1), some (.int x2), none, none] [] σ
  rw [f_X9_rank] at h
  refine pw_iload_n eX9_rank_0 rfl ?_
  refine pw_iconst eX9_rank_1 ki_2 ?_
  refine pw_icmp_ge (tgt := 20) eX9_rank_2 (by decide) (fun c => ?_) (fun c => ?_)
  · have h := hs_it c h
    refine pw_iconst eX9_rank_20 ki_0 ?_
    refine pw_istore_n eX9_rank_21 rfl (by decide) rfl rfl ?_
    refine pw_iconst eX9_rank_22 ki_0 ?_
    refine pw_istore eX9_rank_23 (by decide) rfl rfl ?_
    exact pw_le (w_X9_rank_25 FU x2 0 0 σ h) ⟨rfl, rfl, rfl, rfl, trivial⟩
  · have h := hs_ie c h
    refine pw_iload_n eX9_rank_5 rfl ?_
    refine pw_if_ne (tgt := 18) eX9_rank_6 (by decide) (fun c => ?_) (fun c => ?_)
    · have h := hs_ie c h
      refine pw_iconst eX9_rank_18 ki_0 ?_
      exact pw_iret' eX9_rank_19 h
    · have h := hs_it c h
      refine pw_aload_n eX9_rank_9 rfl ?_
      refine pw_getR (r := 76) eX9_rank_10 fl_X9_34 ob_67 rfl ?_
      refine pw_iload_n eX9_rank_13 rfl ?_
      obtain ⟨v3, g, h⟩ := hs_bind h
      refine pw_iald' eX9_rank_14 ai_76 g ?_
      refine pw_goto (pc' := 19) eX9_rank_15 (by decide) ?_
      exact pw_iret' eX9_rank_19 h

def f_X9_findOrder_15 (k : Int32 → Int32 → Int32 → HS → Option (HS)) : Nat → Int32 → Int32 → Int32 → HS → Option (HS)
  | 0, _, _, _, _ => none
  | n + 1, x1, x2, x3, σ =>
    if x3 ≤ 0 then
      k x1 x2 x3 σ
    else
      (ldI (σ.1 80) 6 (x3 - 1)).bind fun v2 =>
      (f_X9_rank x1 v2 σ).bind fun q3 =>
      (f_X9_rank x1 x2 q3.2).bind fun q4 =>
      if q4.1 ≤ q3.1 then
        k x1 x2 x3 q4.2
      else
        (ldI (q4.2.1 80) 6 (x3 - 1)).bind fun v5 =>
        (stI q4.2 80 6 x3 v5).bind fun σ6 =>
        f_X9_findOrder_15 k n x1 x2 (x3 + (-1)) σ6
set_option maxRecDepth 20000 in
theorem w_X9_findOrder_15 {d : Nat} {p : HS} {k : Int32 → Int32 → Int32 → HS → Option (HS)} (hk : ∀ (x1 : Int32) (x2 : Int32) (x3 : Int32) (σ : HS), k x1 x2 x3 σ = some p → PW RX9 cX9_findOrder 4 (hs_zM (d + 4) none (none, p)) 61 [some (.ref 67), some (.int x1), some (.int x2), some (.int x3)] [] σ) : ∀ (n : Nat) (x1 : Int32) (x2 : Int32) (x3 : Int32) (σ : HS), f_X9_findOrder_15 k n x1 x2 x3 σ = some p → PW RX9 cX9_findOrder 4 (hs_zM (d + 4) none (none, p)) 15 [some (.ref 67), some (.int x1), some (.int x2), some (.int x3)] [] σ := by
  intro n
  induction n with
  | zero =>
    intro x1 x2 x3 σ h
    rw [f_X9_findOrder_15] at h
    cases h
  | succ n ih =>
    intro x1 x2 x3 σ h
    rw [f_X9_findOrder_15] at h
    refine pw_iload_n eX9_findOrder_15 rfl ?_
    refine pw_if_le (tgt := 61) eX9_findOrder_16 (by decide) (fun c => ?_) (fun c => ?_)
    · have h := hs_it c h
      exact hk x1 x2 x3 σ h
    · have h := hs_ie c h
      refine pw_aload_n eX9_findOrder_19 rfl ?_
      refine pw_iload_n eX9_findOrder_20 rfl ?_
      refine pw_aload_n eX9_findOrder_21 rfl ?_
      refine pw_getR (r := 80) eX9_findOrder_22 fl_X9_47 ob_67 rfl ?_
      refine pw_iload_n eX9_findOrder_25 rfl ?_
      refine pw_iconst eX9_findOrder_26 ki_1 ?_
      refine pw_isub eX9_findOrder_27 ?_
      obtain ⟨v2, g, h⟩ := hs_bind h
      refine pw_iald' eX9_findOrder_28 ai_80 g ?_
      obtain ⟨q3, g, h⟩ := hs_bind h
      refine pw_mV2i eX9_findOrder_29 mv_X9_197 ob_67 (s_X9_rank g) (Nat.le_of_ble_eq_true rfl) ?_
      refine pw_aload_n eX9_findOrder_32 rfl ?_
      refine pw_iload_n eX9_findOrder_33 rfl ?_
      refine pw_iload_n eX9_findOrder_34 rfl ?_
      obtain ⟨q4, g, h⟩ := hs_bind h
      refine pw_mV2i eX9_findOrder_35 mv_X9_197 ob_67 (s_X9_rank g) (Nat.le_of_ble_eq_true rfl) ?_
      refine pw_icmp_ge (tgt := 61) eX9_findOrder_38 (by decide) (fun c => ?_) (fun c => ?_)
      · have h := hs_it c h
        exact hk x1 x2 x3 q4.2 h
      · have h := hs_ie c h
        refine pw_aload_n eX9_findOrder_41 rfl ?_
        refine pw_getR (r := 80) eX9_findOrder_42 fl_X9_47 ob_67 rfl ?_
        refine pw_iload_n eX9_findOrder_45 rfl ?_
        refine pw_aload_n eX9_findOrder_46 rfl ?_
        refine pw_getR (r := 80) eX9_findOrder_47 fl_X9_47 ob_67 rfl ?_
        refine pw_iload_n eX9_findOrder_50 rfl ?_
        refine pw_iconst eX9_findOrder_51 ki_1 ?_
        refine pw_isub eX9_findOrder_52 ?_
        obtain ⟨v5, g, h⟩ := hs_bind h
        refine pw_iald' eX9_findOrder_53 ai_80 g ?_
        obtain ⟨σ6, g, h⟩ := hs_bind h
        refine pw_iast' eX9_findOrder_54 ai_80 g ?_
        refine pw_iinc eX9_findOrder_55 (by decide) rfl ki_m1 rfl rfl ?_
        refine pw_goto (pc' := 15) eX9_findOrder_58 (by decide) ?_
        exact ih x1 x2 (x3 + (-1)) σ6 h
def f_X9_findOrder_2 : Nat → Int32 → Int32 → HS → Option (HS)
  | 0, _, _, _ => none
  | n + 1, x1, x2, σ =>
    (ldI (σ.1 68) 66 23).bind fun v1 =>
    if v1 ≤ x2 then
      some σ
    else
      f_X9_findOrder_15 (fun e7 e8 e9 σ10 =>
        (stI σ10 80 6 e9 e8).bind fun σ11 =>
      f_X9_findOrder_2 n e7 (e8 + 1) σ11) FU x1 x2 x2 σ
set_option maxRecDepth 20000 in
theorem w_X9_findOrder_2 {d : Nat} {p : HS} : ∀ (n : Nat) (x1 : Int32) (x2 : Int32) (σ : HS), f_X9_findOrder_2 n x1 x2 σ = some p → PW RX9 cX9_findOrder 4 (hs_zM (d + 4) none (none, p)) 2 [some (.ref 67), some (.int x1), some (.int x2), none] [] σ := by
  intro n
  induction n with
  | zero =>
    intro x1 x2 σ h
    rw [f_X9_findOrder_2] at h
    cases h
  | succ n ih =>
    intro x1 x2 σ h
    rw [f_X9_findOrder_2] at h
    refine pw_iload_n eX9_findOrder_2 rfl ?_
    refine pw_aload_n eX9_findOrder_3 rfl ?_
    refine pw_getR (r := 68) eX9_findOrder_4 fl_X9_7 ob_67 rfl ?_
    refine pw_bipush eX9_findOrder_7 kb_23 ?_
    obtain ⟨v1, g, h⟩ := hs_bind h
    refine pw_iald' eX9_findOrder_9 ai_68 g ?_
    refine pw_icmp_ge (tgt := 74) eX9_findOrder_10 (by decide) (fun c => ?_) (fun c => ?_)
    · have h := hs_it c h
      exact pw_vret' eX9_findOrder_74 h
    · have h := hs_ie c h
      refine pw_iload_n eX9_findOrder_13 rfl ?_
      refine pw_istore_n eX9_findOrder_14 rfl (by decide) rfl rfl ?_
      refine w_X9_findOrder_15 (fun e7 e8 e9 σ10 h => ?_) FU x1 x2 x2 σ h
      refine pw_aload_n eX9_findOrder_61 rfl ?_
      refine pw_getR (r := 80) eX9_findOrder_62 fl_X9_47 ob_67 rfl ?_
      refine pw_iload_n eX9_findOrder_65 rfl ?_
      refine pw_iload_n eX9_findOrder_66 rfl ?_
      obtain ⟨σ11, g, h⟩ := hs_bind h
      refine pw_iast' eX9_findOrder_67 ai_80 g ?_
      refine pw_iinc eX9_findOrder_68 (by decide) rfl ki_1 rfl rfl ?_
      refine pw_goto (pc' := 2) eX9_findOrder_71 (by decide) ?_
      exact pw_le (ih e7 (e8 + 1) σ11 h) ⟨rfl, rfl, rfl, trivial⟩
def f_X9_findOrder (x1 : Int32) (σ : HS) : Option (HS) :=
  f_X9_findOrder_2 FU x1 0 σ
set_option maxRecDepth 20000 in
theorem s_X9_findOrder {d : Nat} {x1 : Int32} {σ : HS} {p : HS} (h : f_X9_findOrder x1 σ = some p) : hs_Spec (d + 4) yX9_findOrder cX9_findOrder 4 none [.ref 67, .int x1] σ (none, p) := by
  refine hs_spec' (by decide +kernel) rfl (Nat.le_of_ble_eq_true rfl) ?_
  show PW RX9 cX9_findOrder 4 (hs_zM (d + 4) none (none, p)) 0 [some (.ref 67), some (.int x1), none, none] [] σ
  rw [f_X9_findOrder] at h
  refine pw_iconst eX9_findOrder_0 ki_0 ?_
  refine pw_istore_n eX9_findOrder_1 rfl (by decide) rfl rfl ?_
  exact w_X9_findOrder_2 FU x1 0 σ h

def f_X9_isReady_5 : Nat → Int32 → Int32 → Int32 → Int32 → HS → Option (Int32 × HS)
  | 0, _, _, _, _, _ => none
  | n + 1, x1, x2, x3, x4, σ =>
    (ldI (σ.1 68) 66 23).bind fun v1 =>
    if v1 ≤ x4 then
      (bzI x3).bind fun z2 =>
      some (z2, σ)
    else
      (f_X9_counts x1 x4 σ).bind fun q3 =>
      if x3 = 0 then
        f_X9_isReady_5 n x1 x2 0 (x4 + 1) q3.2
      else
        if q3.1 = 0 then
          f_X9_isReady_5 n x1 x2 1 (x4 + 1) q3.2
        else
          (ldI (q3.2.1 78) 6 x4).bind fun v4 =>
          if v4 = (-1) then
            f_X9_isReady_5 n x1 x2 0 (x4 + 1) q3.2
          else
            (ldI (q3.2.1 78) 6 x4).bind fun v5 =>
            (f_X9_behind q3.1 x4 q3.2).bind fun q6 =>
            if x2 < (v5 + q6.1) then
              f_X9_isReady_5 n x1 x2 0 (x4 + 1) q6.2
            else
              f_X9_isReady_5 n x1 x2 1 (x4 + 1) q6.2
set_option maxRecDepth 20000 in
theorem w_X9_isReady_5 {d : Nat} {p : Int32 × HS} : ∀ (n : Nat) (x1 : Int32) (x2 : Int32) (x3 : Int32) (x4 : Int32) (σ : HS), f_X9_isReady_5 n x1 x2 x3 x4 σ = some p → PW RX9 cX9_isReady 6 (hs_zM (d + 5) (some .boolean) (some (.int p.1), p.2)) 5 [some (.ref 67), some (.int x1), some (.int x2), some (.int x3), some (.int x4), none] [] σ := by
  intro n
  induction n with
  | zero =>
    intro x1 x2 x3 x4 σ h
    rw [f_X9_isReady_5] at h
    cases h
  | succ n ih =>
    intro x1 x2 x3 x4 σ h
    rw [f_X9_isReady_5] at h
    refine pw_iload eX9_isReady_5 rfl ?_
    refine pw_aload_n eX9_isReady_7 rfl ?_
    refine pw_getR (r := 68) eX9_isReady_8 fl_X9_7 ob_67 rfl ?_
    refine pw_bipush eX9_isReady_11 kb_23 ?_
    obtain ⟨v1, g, h⟩ := hs_bind h
    refine pw_iald' eX9_isReady_13 ai_68 g ?_
    refine pw_icmp_ge (tgt := 78) eX9_isReady_14 (by decide) (fun c => ?_) (fun c => ?_)
    · have h := hs_it c h
      refine pw_iload_n eX9_isReady_78 rfl ?_
      obtain ⟨z2, g, h⟩ := hs_bind h
      exact pw_bret' eX9_isReady_79 g h
    · have h := hs_ie c h
      refine pw_aload_n eX9_isReady_17 rfl ?_
      refine pw_iload_n eX9_isReady_18 rfl ?_
      refine pw_iload eX9_isReady_19 rfl ?_
      obtain ⟨q3, g, h⟩ := hs_bind h
      refine pw_mV2i eX9_isReady_21 mv_X9_159 ob_67 (s_X9_counts g) (Nat.le_of_ble_eq_true rfl) ?_
      refine pw_istore eX9_isReady_24 (by decide) rfl rfl ?_
      refine pw_iload_n eX9_isReady_26 rfl ?_
      refine pw_if_eq (tgt := 70) eX9_isReady_27 (by decide) (fun c => ?_) (fun c => ?_)
      · have h := hs_it c h
        refine pw_iconst eX9_isReady_70 ki_0 ?_
        refine pw_istore_n eX9_isReady_71 rfl (by decide) rfl rfl ?_
        refine pw_iinc eX9_isReady_72 (by decide) rfl ki_1 rfl rfl ?_
        refine pw_goto (pc' := 5) eX9_isReady_75 (by decide) ?_
        exact pw_le (ih x1 x2 0 (x4 + 1) q3.2 h) ⟨rfl, rfl, rfl, rfl, rfl, trivial⟩
      · have h := hs_ie c h
        refine pw_iload eX9_isReady_30 rfl ?_
        refine pw_if_eq (tgt := 66) eX9_isReady_32 (by decide) (fun c => ?_) (fun c => ?_)
        · have h := hs_it c h
          refine pw_iconst eX9_isReady_66 ki_1 ?_
          refine pw_goto (pc' := 71) eX9_isReady_67 (by decide) ?_
          refine pw_istore_n eX9_isReady_71 rfl (by decide) rfl rfl ?_
          refine pw_iinc eX9_isReady_72 (by decide) rfl ki_1 rfl rfl ?_
          refine pw_goto (pc' := 5) eX9_isReady_75 (by decide) ?_
          exact pw_le (ih x1 x2 1 (x4 + 1) q3.2 h) ⟨rfl, rfl, rfl, rfl, rfl, trivial⟩
        · have h := hs_ie c h
          refine pw_aload_n eX9_isReady_35 rfl ?_
          refine pw_getR (r := 78) eX9_isReady_36 fl_X9_40 ob_67 rfl ?_
          refine pw_iload eX9_isReady_39 rfl ?_
          obtain ⟨v4, g, h⟩ := hs_bind h
          refine pw_iald' eX9_isReady_41 ai_78 g ?_
          refine pw_iconst eX9_isReady_42 ki_m1 ?_
          refine pw_icmp_eq (tgt := 70) eX9_isReady_43 (by decide) (fun c => ?_) (fun c => ?_)
          · have h := hs_it c h
            refine pw_iconst eX9_isReady_70 ki_0 ?_
            refine pw_istore_n eX9_isReady_71 rfl (by decide) rfl rfl ?_
            refine pw_iinc eX9_isReady_72 (by decide) rfl ki_1 rfl rfl ?_
            refine pw_goto (pc' := 5) eX9_isReady_75 (by decide) ?_
            exact pw_le (ih x1 x2 0 (x4 + 1) q3.2 h) ⟨rfl, rfl, rfl, rfl, rfl, trivial⟩
          · have h := hs_ie c h
            refine pw_iload_n eX9_isReady_46 rfl ?_
            refine pw_aload_n eX9_isReady_47 rfl ?_
            refine pw_getR (r := 78) eX9_isReady_48 fl_X9_40 ob_67 rfl ?_
            refine pw_iload eX9_isReady_51 rfl ?_
            obtain ⟨v5, g, h⟩ := hs_bind h
            refine pw_iald' eX9_isReady_53 ai_78 g ?_
            refine pw_aload_n eX9_isReady_54 rfl ?_
            refine pw_iload eX9_isReady_55 rfl ?_
            refine pw_iload eX9_isReady_57 rfl ?_
            obtain ⟨q6, g, h⟩ := hs_bind h
            refine pw_mV2i eX9_isReady_59 mv_X9_162 ob_67 (s_X9_behind g) (Nat.le_of_ble_eq_true rfl) ?_
            refine pw_iadd eX9_isReady_62 ?_
            refine pw_icmp_lt (tgt := 70) eX9_isReady_63 (by decide) (fun c => ?_) (fun c => ?_)
            · have h := hs_it c h
              refine pw_iconst eX9_isReady_70 ki_0 ?_
              refine pw_istore_n eX9_isReady_71 rfl (by decide) rfl rfl ?_
              refine pw_iinc eX9_isReady_72 (by decide) rfl ki_1 rfl rfl ?_
              refine pw_goto (pc' := 5) eX9_isReady_75 (by decide) ?_
              exact pw_le (ih x1 x2 0 (x4 + 1) q6.2 h) ⟨rfl, rfl, rfl, rfl, rfl, trivial⟩
            · have h := hs_ie c h
              refine pw_iconst eX9_isReady_66 ki_1 ?_
              refine pw_goto (pc' := 71) eX9_isReady_67 (by decide) ?_
              refine pw_istore_n eX9_isReady_71 rfl (by decide) rfl rfl ?_
              refine pw_iinc eX9_isReady_72 (by decide) rfl ki_1 rfl rfl ?_
              refine pw_goto (pc' := 5) eX9_isReady_75 (by decide) ?_
              exact pw_le (ih x1 x2 1 (x4 + 1) q6.2 h) ⟨rfl, rfl, rfl, rfl, rfl, trivial⟩
def f_X9_isReady (x1 : Int32) (x2 : Int32) (σ : HS) : Option (Int32 × HS) :=
  f_X9_isReady_5 FU x1 x2 1 0 σ
set_option maxRecDepth 20000 in
theorem s_X9_isReady {d : Nat} {x1 : Int32} {x2 : Int32} {σ : HS} {p : Int32 × HS} (h : f_X9_isReady x1 x2 σ = some p) : hs_Spec (d + 5) yX9_isReady cX9_isReady 6 (some .boolean) [.ref 67, .int x1, .int x2] σ (some (.int p.1), p.2) := by
  refine hs_spec' (by decide +kernel) rfl (Nat.le_of_ble_eq_true rfl) ?_
  show PW RX9 cX9_isReady 6 (hs_zM (d + 5) (some .boolean) (some (.int p.1), p.2)) 0 [some (.ref 67), some (.int x1), some (.int x2), none, none, none] [] σ
  rw [f_X9_isReady] at h
  refine pw_iconst eX9_isReady_0 ki_1 ?_
  refine pw_istore_n eX9_isReady_1 rfl (by decide) rfl rfl ?_
  refine pw_iconst eX9_isReady_2 ki_0 ?_
  refine pw_istore eX9_isReady_3 (by decide) rfl rfl ?_
  exact w_X9_isReady_5 FU x1 x2 1 0 σ h

def f_X9_findRanked_34 (k : Int32 → Int32 → HS → Option (Int32 × HS)) : Nat → Int32 → Int32 → Int32 → Int32 → HS → Option (Int32 × HS)
  | 0, _, _, _, _, _ => none
  | n + 1, x2, x3, x4, x5, σ =>
    (ldI (σ.1 68) 66 23).bind fun v6 =>
    if v6 ≤ x5 then
      k x2 x3 σ
    else
      (ldI (σ.1 80) 6 x5).bind fun v7 =>
      (ldI (σ.1 78) 6 v7).bind fun v8 =>
      if v8 = (-1) then
        (ldI (σ.1 68) 66 21).bind fun v9 =>
        if v9 ≤ x4 then
          f_X9_findRanked_34 k n x2 x3 x4 (x5 + 1) σ
        else
          (f_X9_isReady v7 x3 σ).bind fun q10 =>
          if q10.1 = 0 then
            f_X9_findRanked_34 k n x2 x3 x4 (x5 + 1) q10.2
          else
            (f_X9_isFree v7 x3 q10.2).bind fun q11 =>
            if q11.1 = 0 then
              f_X9_findRanked_34 k n x2 x3 x4 (x5 + 1) q11.2
            else
              (stI q11.2 78 6 v7 x3).bind fun σ12 =>
              (f_X9_exchange v7 x3 σ12).bind fun σ13 =>
              f_X9_findRanked_34 k n (x2 + 1) x3 (x4 + 1) (x5 + 1) σ13
      else
        f_X9_findRanked_34 k n x2 x3 x4 (x5 + 1) σ
set_option maxRecDepth 20000 in
theorem w_X9_findRanked_34 {d : Nat} {p : Int32 × HS} {k : Int32 → Int32 → HS → Option (Int32 × HS)} (hk : ∀ (x2 : Int32) (x3 : Int32) (σ : HS), k x2 x3 σ = some p → PW RX9 cX9_findRanked 7 (hs_zM (d + 6) (some .int) (some (.int p.1), p.2)) 125 [some (.ref 67), none, some (.int x2), some (.int x3), none, none, none] [] σ) : ∀ (n : Nat) (x2 : Int32) (x3 : Int32) (x4 : Int32) (x5 : Int32) (σ : HS), f_X9_findRanked_34 k n x2 x3 x4 x5 σ = some p → PW RX9 cX9_findRanked 7 (hs_zM (d + 6) (some .int) (some (.int p.1), p.2)) 34 [some (.ref 67), none, some (.int x2), some (.int x3), some (.int x4), some (.int x5), none] [] σ := by
  intro n
  induction n with
  | zero =>
    intro x2 x3 x4 x5 σ h
    rw [f_X9_findRanked_34] at h
    cases h
  | succ n ih =>
    intro x2 x3 x4 x5 σ h
    rw [f_X9_findRanked_34] at h
    refine pw_iload eX9_findRanked_34 rfl ?_
    refine pw_aload_n eX9_findRanked_36 rfl ?_
    refine pw_getR (r := 68) eX9_findRanked_37 fl_X9_7 ob_67 rfl ?_
    refine pw_bipush eX9_findRanked_40 kb_23 ?_
    obtain ⟨v6, g, h⟩ := hs_bind h
    refine pw_iald' eX9_findRanked_42 ai_68 g ?_
    refine pw_icmp_ge (tgt := 125) eX9_findRanked_43 (by decide) (fun c => ?_) (fun c => ?_)
    · have h := hs_it c h
      exact pw_le (hk x2 x3 σ h) ⟨rfl, rfl, rfl, trivial⟩
    · have h := hs_ie c h
      refine pw_aload_n eX9_findRanked_46 rfl ?_
      refine pw_getR (r := 80) eX9_findRanked_47 fl_X9_47 ob_67 rfl ?_
      refine pw_iload eX9_findRanked_50 rfl ?_
      obtain ⟨v7, g, h⟩ := hs_bind h
      refine pw_iald' eX9_findRanked_52 ai_80 g ?_
      refine pw_istore eX9_findRanked_53 (by decide) rfl rfl ?_
      refine pw_aload_n eX9_findRanked_55 rfl ?_
      refine pw_getR (r := 78) eX9_findRanked_56 fl_X9_40 ob_67 rfl ?_
      refine pw_iload eX9_findRanked_59 rfl ?_
      obtain ⟨v8, g, h⟩ := hs_bind h
      refine pw_iald' eX9_findRanked_61 ai_78 g ?_
      refine pw_iconst eX9_findRanked_62 ki_m1 ?_
      refine pw_icmp_ne (tgt := 119) eX9_findRanked_63 (by decide) (fun c => ?_) (fun c => ?_)
      · have h := hs_ie c h
        refine pw_iinc eX9_findRanked_119 (by decide) rfl ki_1 rfl rfl ?_
        refine pw_goto (pc' := 34) eX9_findRanked_122 (by decide) ?_
        exact pw_le (ih x2 x3 x4 (x5 + 1) σ h) ⟨rfl, rfl, rfl, rfl, rfl, trivial⟩
      · have h := hs_it c h
        refine pw_iload eX9_findRanked_66 rfl ?_
        refine pw_aload_n eX9_findRanked_68 rfl ?_
        refine pw_getR (r := 68) eX9_findRanked_69 fl_X9_7 ob_67 rfl ?_
        refine pw_bipush eX9_findRanked_72 kb_21 ?_
        obtain ⟨v9, g, h⟩ := hs_bind h
        refine pw_iald' eX9_findRanked_74 ai_68 g ?_
        refine pw_icmp_ge (tgt := 119) eX9_findRanked_75 (by decide) (fun c => ?_) (fun c => ?_)
        · have h := hs_it c h
          refine pw_iinc eX9_findRanked_119 (by decide) rfl ki_1 rfl rfl ?_
          refine pw_goto (pc' := 34) eX9_findRanked_122 (by decide) ?_
          exact pw_le (ih x2 x3 x4 (x5 + 1) σ h) ⟨rfl, rfl, rfl, rfl, rfl, trivial⟩
        · have h := hs_ie c h
          refine pw_aload_n eX9_findRanked_78 rfl ?_
          refine pw_iload eX9_findRanked_79 rfl ?_
          refine pw_iload_n eX9_findRanked_81 rfl ?_
          obtain ⟨q10, g, h⟩ := hs_bind h
          refine pw_mV2i eX9_findRanked_82 mv_X9_204 ob_67 (s_X9_isReady g) (Nat.le_of_ble_eq_true rfl) ?_
          refine pw_if_eq (tgt := 119) eX9_findRanked_85 (by decide) (fun c => ?_) (fun c => ?_)
          · have h := hs_it c h
            refine pw_iinc eX9_findRanked_119 (by decide) rfl ki_1 rfl rfl ?_
            refine pw_goto (pc' := 34) eX9_findRanked_122 (by decide) ?_
            exact pw_le (ih x2 x3 x4 (x5 + 1) q10.2 h) ⟨rfl, rfl, rfl, rfl, rfl, trivial⟩
          · have h := hs_ie c h
            refine pw_aload_n eX9_findRanked_88 rfl ?_
            refine pw_iload eX9_findRanked_89 rfl ?_
            refine pw_iload_n eX9_findRanked_91 rfl ?_
            obtain ⟨q11, g, h⟩ := hs_bind h
            refine pw_mV2i eX9_findRanked_92 mv_X9_175 ob_67 (s_X9_isFree g) (Nat.le_of_ble_eq_true rfl) ?_
            refine pw_if_eq (tgt := 119) eX9_findRanked_95 (by decide) (fun c => ?_) (fun c => ?_)
            · have h := hs_it c h
              refine pw_iinc eX9_findRanked_119 (by decide) rfl ki_1 rfl rfl ?_
              refine pw_goto (pc' := 34) eX9_findRanked_122 (by decide) ?_
              exact pw_le (ih x2 x3 x4 (x5 + 1) q11.2 h) ⟨rfl, rfl, rfl, rfl, rfl, trivial⟩
            · have h := hs_ie c h
              refine pw_aload_n eX9_findRanked_98 rfl ?_
              refine pw_getR (r := 78) eX9_findRanked_99 fl_X9_40 ob_67 rfl ?_
              refine pw_iload eX9_findRanked_102 rfl ?_
              refine pw_iload_n eX9_findRanked_104 rfl ?_
              obtain ⟨σ12, g, h⟩ := hs_bind h
              refine pw_iast' eX9_findRanked_105 ai_78 g ?_
              refine pw_aload_n eX9_findRanked_106 rfl ?_
              refine pw_iload eX9_findRanked_107 rfl ?_
              refine pw_iload_n eX9_findRanked_109 rfl ?_
              obtain ⟨σ13, g, h⟩ := hs_bind h
              refine pw_mV2v eX9_findRanked_110 mv_X9_181 ob_67 (s_X9_exchange g) (Nat.le_of_ble_eq_true rfl) ?_
              refine pw_iinc eX9_findRanked_113 (by decide) rfl ki_1 rfl rfl ?_
              refine pw_iinc eX9_findRanked_116 (by decide) rfl ki_1 rfl rfl ?_
              refine pw_iinc eX9_findRanked_119 (by decide) rfl ki_1 rfl rfl ?_
              refine pw_goto (pc' := 34) eX9_findRanked_122 (by decide) ?_
              exact pw_le (ih (x2 + 1) x3 (x4 + 1) (x5 + 1) σ13 h) ⟨rfl, rfl, rfl, rfl, rfl, trivial⟩
def f_X9_findRanked_17 : Nat → Int32 → Int32 → HS → Option (Int32 × HS)
  | 0, _, _, _ => none
  | n + 1, x2, x3, σ =>
    (ldI (σ.1 68) 66 23).bind fun v4 =>
    if v4 ≤ x2 then
      (f_X9_lengthOf σ).bind fun q5 =>
      some (q5.1, q5.2)
    else
      f_X9_findRanked_34 (fun e14 e15 σ16 =>
        f_X9_findRanked_17 n e14 (e15 + 1) σ16) FU x2 x3 0 0 σ
set_option maxRecDepth 20000 in
theorem w_X9_findRanked_17 {d : Nat} {p : Int32 × HS} : ∀ (n : Nat) (x2 : Int32) (x3 : Int32) (σ : HS), f_X9_findRanked_17 n x2 x3 σ = some p → PW RX9 cX9_findRanked 7 (hs_zM (d + 6) (some .int) (some (.int p.1), p.2)) 17 [some (.ref 67), none, some (.int x2), some (.int x3), none, none, none] [] σ := by
  intro n
  induction n with
  | zero =>
    intro x2 x3 σ h
    rw [f_X9_findRanked_17] at h
    cases h
  | succ n ih =>
    intro x2 x3 σ h
    rw [f_X9_findRanked_17] at h
    refine pw_iload_n eX9_findRanked_17 rfl ?_
    refine pw_aload_n eX9_findRanked_18 rfl ?_
    refine pw_getR (r := 68) eX9_findRanked_19 fl_X9_7 ob_67 rfl ?_
    refine pw_bipush eX9_findRanked_22 kb_23 ?_
    obtain ⟨v4, g, h⟩ := hs_bind h
    refine pw_iald' eX9_findRanked_24 ai_68 g ?_
    refine pw_icmp_ge (tgt := 131) eX9_findRanked_25 (by decide) (fun c => ?_) (fun c => ?_)
    · have h := hs_it c h
      refine pw_aload_n eX9_findRanked_131 rfl ?_
      obtain ⟨q5, g, h⟩ := hs_bind h
      refine pw_mV0i eX9_findRanked_132 mv_X9_191 ob_67 (s_X9_lengthOf g) (Nat.le_of_ble_eq_true rfl) ?_
      exact pw_iret' eX9_findRanked_135 h
    · have h := hs_ie c h
      refine pw_iconst eX9_findRanked_28 ki_0 ?_
      refine pw_istore eX9_findRanked_29 (by decide) rfl rfl ?_
      refine pw_iconst eX9_findRanked_31 ki_0 ?_
      refine pw_istore eX9_findRanked_32 (by decide) rfl rfl ?_
      refine w_X9_findRanked_34 (fun e14 e15 σ16 h => ?_) FU x2 x3 0 0 σ h
      refine pw_iinc eX9_findRanked_125 (by decide) rfl ki_1 rfl rfl ?_
      refine pw_goto (pc' := 17) eX9_findRanked_128 (by decide) ?_
      exact ih e14 (e15 + 1) σ16 h
def f_X9_findRanked (x1 : Int32) (σ : HS) : Option (Int32 × HS) :=
  (f_X9_findWays σ).bind fun σ1 =>
  (f_X9_findOrder x1 σ1).bind fun σ2 =>
  (f_X9_clearAll σ2).bind fun σ3 =>
  f_X9_findRanked_17 FU 0 0 σ3
set_option maxRecDepth 20000 in
theorem s_X9_findRanked {d : Nat} {x1 : Int32} {σ : HS} {p : Int32 × HS} (h : f_X9_findRanked x1 σ = some p) : hs_Spec (d + 6) yX9_findRanked cX9_findRanked 7 (some .int) [.ref 67, .int x1] σ (some (.int p.1), p.2) := by
  refine hs_spec' (by decide +kernel) rfl (Nat.le_of_ble_eq_true rfl) ?_
  show PW RX9 cX9_findRanked 7 (hs_zM (d + 6) (some .int) (some (.int p.1), p.2)) 0 [some (.ref 67), some (.int x1), none, none, none, none, none] [] σ
  rw [f_X9_findRanked] at h
  refine pw_aload_n eX9_findRanked_0 rfl ?_
  obtain ⟨σ1, g, h⟩ := hs_bind h
  refine pw_mV0v eX9_findRanked_1 mv_X9_165 ob_67 (s_X9_findWays g) (Nat.le_of_ble_eq_true rfl) ?_
  refine pw_aload_n eX9_findRanked_4 rfl ?_
  refine pw_iload_n eX9_findRanked_5 rfl ?_
  obtain ⟨σ2, g, h⟩ := hs_bind h
  refine pw_mV1v eX9_findRanked_6 mv_X9_200 ob_67 (s_X9_findOrder g) (Nat.le_of_ble_eq_true rfl) ?_
  refine pw_aload_n eX9_findRanked_9 rfl ?_
  obtain ⟨σ3, g, h⟩ := hs_bind h
  refine pw_mV0v eX9_findRanked_10 mv_X9_178 ob_67 (s_X9_clearAll g) (Nat.le_of_ble_eq_true rfl) ?_
  refine pw_iconst eX9_findRanked_13 ki_0 ?_
  refine pw_istore_n eX9_findRanked_14 rfl (by decide) rfl rfl ?_
  refine pw_iconst eX9_findRanked_15 ki_0 ?_
  refine pw_istore_n eX9_findRanked_16 rfl (by decide) rfl rfl ?_
  exact pw_le (w_X9_findRanked_17 FU 0 0 σ3 h) ⟨rfl, rfl, rfl, trivial⟩

def f_X9_ranked_29 (x1 : Int32) (x2 : Int32) (σ : HS) : Option (Int32 × HS) :=
  (f_X9_findRanked x1 σ).bind fun q3 =>
  if x2 = (-1) then
    some (q3.1, q3.2)
  else
    (ldI (q3.2.1 78) 6 x2).bind fun v4 =>
    some (v4, q3.2)
set_option maxRecDepth 20000 in
theorem w_X9_ranked_29 {d : Nat} {p : Int32 × HS} : ∀ (x1 : Int32) (x2 : Int32) (σ : HS), f_X9_ranked_29 x1 x2 σ = some p → PW RX9 cX9_ranked 4 (hs_zM (d + 7) (some .int) (some (.int p.1), p.2)) 29 [some (.ref 67), some (.int x1), some (.int x2), none] [] σ := by
  intro x1 x2 σ h
  rw [f_X9_ranked_29] at h
  refine pw_aload_n eX9_ranked_29 rfl ?_
  refine pw_iload_n eX9_ranked_30 rfl ?_
  obtain ⟨q3, g, h⟩ := hs_bind h
  refine pw_mV1i eX9_ranked_31 mv_X9_207 ob_67 (s_X9_findRanked g) (Nat.le_of_ble_eq_true rfl) ?_
  refine pw_istore_n eX9_ranked_34 rfl (by decide) rfl rfl ?_
  refine pw_iload_n eX9_ranked_35 rfl ?_
  refine pw_iconst eX9_ranked_36 ki_m1 ?_
  refine pw_icmp_ne (tgt := 44) eX9_ranked_37 (by decide) (fun c => ?_) (fun c => ?_)
  · have h := hs_ie c h
    refine pw_aload_n eX9_ranked_44 rfl ?_
    refine pw_getR (r := 78) eX9_ranked_45 fl_X9_40 ob_67 rfl ?_
    refine pw_iload_n eX9_ranked_48 rfl ?_
    obtain ⟨v4, g, h⟩ := hs_bind h
    refine pw_iald' eX9_ranked_49 ai_78 g ?_
    exact pw_iret' eX9_ranked_50 h
  · have h := hs_it c h
    refine pw_iload_n eX9_ranked_40 rfl ?_
    refine pw_goto (pc' := 50) eX9_ranked_41 (by decide) ?_
    exact pw_iret' eX9_ranked_50 h
def f_X9_ranked (x1 : Int32) (x2 : Int32) (σ : HS) : Option (Int32 × HS) :=
  (f_X9_in x1 0 2 σ).bind fun q1 =>
  if q1.1 = 0 then
    (f_X9_refuses (-2) q1.2).bind fun q2 =>
    some (q2.1, q2.2)
  else
    if x2 = (-1) then
      f_X9_ranked_29 x1 x2 q1.2
    else
      (f_X9_isOne x2 q1.2).bind fun q5 =>
      if q5.1 = 0 then
        (f_X9_refuses (-2) q5.2).bind fun q6 =>
        some (q6.1, q6.2)
      else
        f_X9_ranked_29 x1 x2 q5.2
set_option maxRecDepth 20000 in
theorem s_X9_ranked {d : Nat} {x1 : Int32} {x2 : Int32} {σ : HS} {p : Int32 × HS} (h : f_X9_ranked x1 x2 σ = some p) : hs_Spec (d + 7) yX9_ranked cX9_ranked 4 (some .int) [.ref 67, .int x1, .int x2] σ (some (.int p.1), p.2) := by
  refine hs_spec' (by decide +kernel) rfl (Nat.le_of_ble_eq_true rfl) ?_
  show PW RX9 cX9_ranked 4 (hs_zM (d + 7) (some .int) (some (.int p.1), p.2)) 0 [some (.ref 67), some (.int x1), some (.int x2), none] [] σ
  rw [f_X9_ranked] at h
  refine pw_iload_n eX9_ranked_0 rfl ?_
  refine pw_iconst eX9_ranked_1 ki_0 ?_
  refine pw_iconst eX9_ranked_2 ki_2 ?_
  obtain ⟨q1, g, h⟩ := hs_bind h
  refine pw_mS3i eX9_ranked_3 ms_X9_74 (s_X9_in g) (Nat.le_of_ble_eq_true rfl) ?_
  refine pw_if_eq (tgt := 22) eX9_ranked_6 (by decide) (fun c => ?_) (fun c => ?_)
  · have h := hs_it c h
    refine pw_aload_n eX9_ranked_22 rfl ?_
    refine pw_bipush eX9_ranked_23 kb_m2 ?_
    obtain ⟨q2, g, h⟩ := hs_bind h
    refine pw_mV1i eX9_ranked_25 mv_X9_63 ob_67 (s_X9_refuses g) (Nat.le_of_ble_eq_true rfl) ?_
    exact pw_iret' eX9_ranked_28 h
  · have h := hs_ie c h
    refine pw_iload_n eX9_ranked_9 rfl ?_
    refine pw_iconst eX9_ranked_10 ki_m1 ?_
    refine pw_icmp_eq (tgt := 29) eX9_ranked_11 (by decide) (fun c => ?_) (fun c => ?_)
    · have h := hs_it c h
      exact w_X9_ranked_29 x1 x2 q1.2 h
    · have h := hs_ie c h
      refine pw_aload_n eX9_ranked_14 rfl ?_
      refine pw_iload_n eX9_ranked_15 rfl ?_
      obtain ⟨q5, g, h⟩ := hs_bind h
      refine pw_mV1i eX9_ranked_16 mv_X9_96 ob_67 (s_X9_isOne g) (Nat.le_of_ble_eq_true rfl) ?_
      refine pw_if_ne (tgt := 29) eX9_ranked_19 (by decide) (fun c => ?_) (fun c => ?_)
      · have h := hs_ie c h
        exact w_X9_ranked_29 x1 x2 q5.2 h
      · have h := hs_it c h
        refine pw_aload_n eX9_ranked_22 rfl ?_
        refine pw_bipush eX9_ranked_23 kb_m2 ?_
        obtain ⟨q6, g, h⟩ := hs_bind h
        refine pw_mV1i eX9_ranked_25 mv_X9_63 ob_67 (s_X9_refuses g) (Nat.le_of_ble_eq_true rfl) ?_
        exact pw_iret' eX9_ranked_28 h

def f_X9_plan_56 : Nat → Int32 → Int32 → Int32 → HS → Option (Int32 × HS)
  | 0, _, _, _, _ => none
  | n + 1, x1, x3, x4, σ =>
    (ldI (σ.1 68) 66 23).bind fun v5 =>
    if v5 ≤ x4 then
      (f_X9_lengthOf σ).bind fun q6 =>
      some (q6.1, q6.2)
    else
      (dvI x1 x3).bind fun v7 =>
      (rmI v7 10).bind fun v8 =>
      (f_X9_mayBegin x4 v8 x4 σ).bind fun q9 =>
      if q9.1 = 0 then
        some ((-1), q9.2)
      else
        (stI q9.2 78 6 x4 v8).bind fun σ10 =>
        (f_X9_exchange x4 v8 σ10).bind fun σ11 =>
        (dvI x3 10).bind fun v12 =>
        f_X9_plan_56 n x1 v12 (x4 + 1) σ11
set_option maxRecDepth 20000 in
theorem w_X9_plan_56 {d : Nat} {p : Int32 × HS} : ∀ (n : Nat) (x1 : Int32) (x3 : Int32) (x4 : Int32) (σ : HS), f_X9_plan_56 n x1 x3 x4 σ = some p → PW RX9 cX9_plan 6 (hs_zM (d + 6) (some .int) (some (.int p.1), p.2)) 56 [some (.ref 67), some (.int x1), none, some (.int x3), some (.int x4), none] [] σ := by
  intro n
  induction n with
  | zero =>
    intro x1 x3 x4 σ h
    rw [f_X9_plan_56] at h
    cases h
  | succ n ih =>
    intro x1 x3 x4 σ h
    rw [f_X9_plan_56] at h
    refine pw_iload eX9_plan_56 rfl ?_
    refine pw_aload_n eX9_plan_58 rfl ?_
    refine pw_getR (r := 68) eX9_plan_59 fl_X9_7 ob_67 rfl ?_
    refine pw_bipush eX9_plan_62 kb_23 ?_
    obtain ⟨v5, g, h⟩ := hs_bind h
    refine pw_iald' eX9_plan_64 ai_68 g ?_
    refine pw_icmp_ge (tgt := 119) eX9_plan_65 (by decide) (fun c => ?_) (fun c => ?_)
    · have h := hs_it c h
      refine pw_aload_n eX9_plan_119 rfl ?_
      obtain ⟨q6, g, h⟩ := hs_bind h
      refine pw_mV0i eX9_plan_120 mv_X9_191 ob_67 (s_X9_lengthOf g) (Nat.le_of_ble_eq_true rfl) ?_
      exact pw_iret' eX9_plan_123 h
    · have h := hs_ie c h
      refine pw_iload_n eX9_plan_68 rfl ?_
      refine pw_iload_n eX9_plan_69 rfl ?_
      obtain ⟨v7, g, h⟩ := hs_bind h
      refine pw_idiv' eX9_plan_70 g ?_
      refine pw_bipush eX9_plan_71 kb_10 ?_
      obtain ⟨v8, g, h⟩ := hs_bind h
      refine pw_irem' eX9_plan_73 g ?_
      refine pw_istore eX9_plan_74 (by decide) rfl rfl ?_
      refine pw_aload_n eX9_plan_76 rfl ?_
      refine pw_iload eX9_plan_77 rfl ?_
      refine pw_iload eX9_plan_79 rfl ?_
      refine pw_iload eX9_plan_81 rfl ?_
      obtain ⟨q9, g, h⟩ := hs_bind h
      refine pw_mV3i eX9_plan_83 mv_X9_185 ob_67 (s_X9_mayBegin g) (Nat.le_of_ble_eq_true rfl) ?_
      refine pw_if_ne (tgt := 91) eX9_plan_86 (by decide) (fun c => ?_) (fun c => ?_)
      · have h := hs_ie c h
        refine pw_aload_n eX9_plan_91 rfl ?_
        refine pw_getR (r := 78) eX9_plan_92 fl_X9_40 ob_67 rfl ?_
        refine pw_iload eX9_plan_95 rfl ?_
        refine pw_iload eX9_plan_97 rfl ?_
        obtain ⟨σ10, g, h⟩ := hs_bind h
        refine pw_iast' eX9_plan_99 ai_78 g ?_
        refine pw_aload_n eX9_plan_100 rfl ?_
        refine pw_iload eX9_plan_101 rfl ?_
        refine pw_iload eX9_plan_103 rfl ?_
        obtain ⟨σ11, g, h⟩ := hs_bind h
        refine pw_mV2v eX9_plan_105 mv_X9_181 ob_67 (s_X9_exchange g) (Nat.le_of_ble_eq_true rfl) ?_
        refine pw_iload_n eX9_plan_108 rfl ?_
        refine pw_bipush eX9_plan_109 kb_10 ?_
        obtain ⟨v12, g, h⟩ := hs_bind h
        refine pw_idiv' eX9_plan_111 g ?_
        refine pw_istore_n eX9_plan_112 rfl (by decide) rfl rfl ?_
        refine pw_iinc eX9_plan_113 (by decide) rfl ki_1 rfl rfl ?_
        refine pw_goto (pc' := 56) eX9_plan_116 (by decide) ?_
        exact pw_le (ih x1 v12 (x4 + 1) σ11 h) ⟨rfl, rfl, rfl, rfl, trivial⟩
      · have h := hs_it c h
        refine pw_iconst eX9_plan_89 ki_m1 ?_
        exact pw_iret' eX9_plan_90 h
def f_X9_plan_4 : Nat → Int32 → Int32 → Int32 → HS → Option (Int32 × HS)
  | 0, _, _, _, _ => none
  | n + 1, x1, x2, x3, σ =>
    (ldI (σ.1 68) 66 23).bind fun v1 =>
    if v1 ≤ x3 then
      (f_X9_in x1 0 (x2 - 1) σ).bind fun q2 =>
      if q2.1 = 0 then
        (f_X9_refuses (-2) q2.2).bind fun q13 =>
        some (q13.1, q13.2)
      else
        (f_X9_clearAll q2.2).bind fun σ3 =>
        (dvI x2 10).bind fun v4 =>
        f_X9_plan_56 FU x1 v4 0 σ3
    else
      f_X9_plan_4 n x1 (x2 * 10) (x3 + 1) σ
set_option maxRecDepth 20000 in
theorem w_X9_plan_4 {d : Nat} {p : Int32 × HS} : ∀ (n : Nat) (x1 : Int32) (x2 : Int32) (x3 : Int32) (σ : HS), f_X9_plan_4 n x1 x2 x3 σ = some p → PW RX9 cX9_plan 6 (hs_zM (d + 6) (some .int) (some (.int p.1), p.2)) 4 [some (.ref 67), some (.int x1), some (.int x2), some (.int x3), none, none] [] σ := by
  intro n
  induction n with
  | zero =>
    intro x1 x2 x3 σ h
    rw [f_X9_plan_4] at h
    cases h
  | succ n ih =>
    intro x1 x2 x3 σ h
    rw [f_X9_plan_4] at h
    refine pw_iload_n eX9_plan_4 rfl ?_
    refine pw_aload_n eX9_plan_5 rfl ?_
    refine pw_getR (r := 68) eX9_plan_6 fl_X9_7 ob_67 rfl ?_
    refine pw_bipush eX9_plan_9 kb_23 ?_
    obtain ⟨v1, g, h⟩ := hs_bind h
    refine pw_iald' eX9_plan_11 ai_68 g ?_
    refine pw_icmp_ge (tgt := 26) eX9_plan_12 (by decide) (fun c => ?_) (fun c => ?_)
    · have h := hs_it c h
      refine pw_iload_n eX9_plan_26 rfl ?_
      refine pw_iconst eX9_plan_27 ki_0 ?_
      refine pw_iload_n eX9_plan_28 rfl ?_
      refine pw_iconst eX9_plan_29 ki_1 ?_
      refine pw_isub eX9_plan_30 ?_
      obtain ⟨q2, g, h⟩ := hs_bind h
      refine pw_mS3i eX9_plan_31 ms_X9_74 (s_X9_in g) (Nat.le_of_ble_eq_true rfl) ?_
      refine pw_if_ne (tgt := 44) eX9_plan_34 (by decide) (fun c => ?_) (fun c => ?_)
      · have h := hs_ie c h
        refine pw_aload_n eX9_plan_44 rfl ?_
        obtain ⟨σ3, g, h⟩ := hs_bind h
        refine pw_mV0v eX9_plan_45 mv_X9_178 ob_67 (s_X9_clearAll g) (Nat.le_of_ble_eq_true rfl) ?_
        refine pw_iload_n eX9_plan_48 rfl ?_
        refine pw_bipush eX9_plan_49 kb_10 ?_
        obtain ⟨v4, g, h⟩ := hs_bind h
        refine pw_idiv' eX9_plan_51 g ?_
        refine pw_istore_n eX9_plan_52 rfl (by decide) rfl rfl ?_
        refine pw_iconst eX9_plan_53 ki_0 ?_
        refine pw_istore eX9_plan_54 (by decide) rfl rfl ?_
        exact pw_le (w_X9_plan_56 FU x1 v4 0 σ3 h) ⟨rfl, rfl, rfl, rfl, trivial⟩
      · have h := hs_it c h
        refine pw_aload_n eX9_plan_37 rfl ?_
        refine pw_bipush eX9_plan_38 kb_m2 ?_
        obtain ⟨q13, g, h⟩ := hs_bind h
        refine pw_mV1i eX9_plan_40 mv_X9_63 ob_67 (s_X9_refuses g) (Nat.le_of_ble_eq_true rfl) ?_
        exact pw_iret' eX9_plan_43 h
    · have h := hs_ie c h
      refine pw_iload_n eX9_plan_15 rfl ?_
      refine pw_bipush eX9_plan_16 kb_10 ?_
      refine pw_imul eX9_plan_18 ?_
      refine pw_istore_n eX9_plan_19 rfl (by decide) rfl rfl ?_
      refine pw_iinc eX9_plan_20 (by decide) rfl ki_1 rfl rfl ?_
      refine pw_goto (pc' := 4) eX9_plan_23 (by decide) ?_
      exact ih x1 (x2 * 10) (x3 + 1) σ h
def f_X9_plan (x1 : Int32) (σ : HS) : Option (Int32 × HS) :=
  f_X9_plan_4 FU x1 1 0 σ
set_option maxRecDepth 20000 in
theorem s_X9_plan {d : Nat} {x1 : Int32} {σ : HS} {p : Int32 × HS} (h : f_X9_plan x1 σ = some p) : hs_Spec (d + 6) yX9_plan cX9_plan 6 (some .int) [.ref 67, .int x1] σ (some (.int p.1), p.2) := by
  refine hs_spec' (by decide +kernel) rfl (Nat.le_of_ble_eq_true rfl) ?_
  show PW RX9 cX9_plan 6 (hs_zM (d + 6) (some .int) (some (.int p.1), p.2)) 0 [some (.ref 67), some (.int x1), none, none, none, none] [] σ
  rw [f_X9_plan] at h
  refine pw_iconst eX9_plan_0 ki_1 ?_
  refine pw_istore_n eX9_plan_1 rfl (by decide) rfl rfl ?_
  refine pw_iconst eX9_plan_2 ki_0 ?_
  refine pw_istore_n eX9_plan_3 rfl (by decide) rfl rfl ?_
  exact w_X9_plan_4 FU x1 1 0 σ h

def f_X9_toldOfKind_17 : Nat → Int32 → Int32 → Int32 → HS → Option (Int32 × HS)
  | 0, _, _, _, _ => none
  | n + 1, x1, x3, x4, σ =>
    (ldI (σ.1 68) 66 23).bind fun v1 =>
    if v1 ≤ x4 then
      some (x3, σ)
    else
      (ldI (σ.1 68) 66 ((24 : Int32) + x4)).bind fun v2 =>
      if v2 = x1 then
        f_X9_toldOfKind_17 n x1 (x3 + 1) (x4 + 1) σ
      else
        f_X9_toldOfKind_17 n x1 (x3 + 0) (x4 + 1) σ
set_option maxRecDepth 20000 in
theorem w_X9_toldOfKind_17 {d : Nat} {p : Int32 × HS} : ∀ (n : Nat) (x1 : Int32) (x3 : Int32) (x4 : Int32) (σ : HS), f_X9_toldOfKind_17 n x1 x3 x4 σ = some p → PW RX9 cX9_toldOfKind 5 (hs_zM (d + 2) (some .int) (some (.int p.1), p.2)) 17 [some (.ref 67), some (.int x1), none, some (.int x3), some (.int x4)] [] σ := by
  intro n
  induction n with
  | zero =>
    intro x1 x3 x4 σ h
    rw [f_X9_toldOfKind_17] at h
    cases h
  | succ n ih =>
    intro x1 x3 x4 σ h
    rw [f_X9_toldOfKind_17] at h
    refine pw_iload eX9_toldOfKind_17 rfl ?_
    refine pw_aload_n eX9_toldOfKind_19 rfl ?_
    refine pw_getR (r := 68) eX9_toldOfKind_20 fl_X9_7 ob_67 rfl ?_
    refine pw_bipush eX9_toldOfKind_23 kb_23 ?_
    obtain ⟨v1, g, h⟩ := hs_bind h
    refine pw_iald' eX9_toldOfKind_25 ai_68 g ?_
    refine pw_icmp_ge (tgt := 57) eX9_toldOfKind_26 (by decide) (fun c => ?_) (fun c => ?_)
    · have h := hs_it c h
      refine pw_iload_n eX9_toldOfKind_57 rfl ?_
      exact pw_iret' eX9_toldOfKind_58 h
    · have h := hs_ie c h
      refine pw_iload_n eX9_toldOfKind_29 rfl ?_
      refine pw_aload_n eX9_toldOfKind_30 rfl ?_
      refine pw_getR (r := 68) eX9_toldOfKind_31 fl_X9_7 ob_67 rfl ?_
      refine pw_bipush eX9_toldOfKind_34 kb_24 ?_
      refine pw_iload eX9_toldOfKind_36 rfl ?_
      refine pw_iadd eX9_toldOfKind_38 ?_
      obtain ⟨v2, g, h⟩ := hs_bind h
      refine pw_iald' eX9_toldOfKind_39 ai_68 g ?_
      refine pw_iload_n eX9_toldOfKind_40 rfl ?_
      refine pw_icmp_ne (tgt := 48) eX9_toldOfKind_41 (by decide) (fun c => ?_) (fun c => ?_)
      · have h := hs_ie c h
        refine pw_iconst eX9_toldOfKind_48 ki_0 ?_
        refine pw_iadd eX9_toldOfKind_49 ?_
        refine pw_istore_n eX9_toldOfKind_50 rfl (by decide) rfl rfl ?_
        refine pw_iinc eX9_toldOfKind_51 (by decide) rfl ki_1 rfl rfl ?_
        refine pw_goto (pc' := 17) eX9_toldOfKind_54 (by decide) ?_
        exact ih x1 (x3 + 0) (x4 + 1) σ h
      · have h := hs_it c h
        refine pw_iconst eX9_toldOfKind_44 ki_1 ?_
        refine pw_goto (pc' := 49) eX9_toldOfKind_45 (by decide) ?_
        refine pw_iadd eX9_toldOfKind_49 ?_
        refine pw_istore_n eX9_toldOfKind_50 rfl (by decide) rfl rfl ?_
        refine pw_iinc eX9_toldOfKind_51 (by decide) rfl ki_1 rfl rfl ?_
        refine pw_goto (pc' := 17) eX9_toldOfKind_54 (by decide) ?_
        exact ih x1 (x3 + 1) (x4 + 1) σ h
def f_X9_toldOfKind (x1 : Int32) (x2 : Int32) (σ : HS) : Option (Int32 × HS) :=
  if (4 : Int32) ≤ x2 then
    f_X9_toldOfKind_17 FU x1 0 0 σ
  else
    (f_X9_ofKind x1 x2 σ).bind fun q3 =>
    some (q3.1, q3.2)
set_option maxRecDepth 20000 in
theorem s_X9_toldOfKind {d : Nat} {x1 : Int32} {x2 : Int32} {σ : HS} {p : Int32 × HS} (h : f_X9_toldOfKind x1 x2 σ = some p) : hs_Spec (d + 2) yX9_toldOfKind cX9_toldOfKind 5 (some .int) [.ref 67, .int x1, .int x2] σ (some (.int p.1), p.2) := by
  refine hs_spec' (by decide +kernel) rfl (Nat.le_of_ble_eq_true rfl) ?_
  show PW RX9 cX9_toldOfKind 5 (hs_zM (d + 2) (some .int) (some (.int p.1), p.2)) 0 [some (.ref 67), some (.int x1), some (.int x2), none, none] [] σ
  rw [f_X9_toldOfKind] at h
  refine pw_iload_n eX9_toldOfKind_0 rfl ?_
  refine pw_iconst eX9_toldOfKind_1 ki_4 ?_
  refine pw_icmp_ge (tgt := 12) eX9_toldOfKind_2 (by decide) (fun c => ?_) (fun c => ?_)
  · have h := hs_it c h
    refine pw_iconst eX9_toldOfKind_12 ki_0 ?_
    refine pw_istore_n eX9_toldOfKind_13 rfl (by decide) rfl rfl ?_
    refine pw_iconst eX9_toldOfKind_14 ki_0 ?_
    refine pw_istore eX9_toldOfKind_15 (by decide) rfl rfl ?_
    exact pw_le (w_X9_toldOfKind_17 FU x1 0 0 σ h) ⟨rfl, rfl, rfl, rfl, trivial⟩
  · have h := hs_ie c h
    refine pw_aload_n eX9_toldOfKind_5 rfl ?_
    refine pw_iload_n eX9_toldOfKind_6 rfl ?_
    refine pw_iload_n eX9_toldOfKind_7 rfl ?_
    obtain ⟨q3, g, h⟩ := hs_bind h
    refine pw_mV2i eX9_toldOfKind_8 mv_X9_78 ob_67 (s_X9_ofKind g) (Nat.le_of_ble_eq_true rfl) ?_
    exact pw_iret' eX9_toldOfKind_11 h

def f_X9_of (x1 : Int32) (x2 : Int32) (σ : HS) : Option (Int32 × HS) :=
  (f_X9_isKind x1 σ).bind fun q1 =>
  if q1.1 = 0 then
    (f_X9_refuses (-2) q1.2).bind fun q2 =>
    some (q2.1, q2.2)
  else
    (f_X9_in x2 0 4 q1.2).bind fun q3 =>
    if q3.1 = 0 then
      (f_X9_refuses (-2) q3.2).bind fun q4 =>
      some (q4.1, q4.2)
    else
      (f_X9_toldOfKind x1 x2 q3.2).bind fun q5 =>
      some (q5.1, q5.2)
set_option maxRecDepth 20000 in
theorem s_X9_of {d : Nat} {x1 : Int32} {x2 : Int32} {σ : HS} {p : Int32 × HS} (h : f_X9_of x1 x2 σ = some p) : hs_Spec (d + 3) yX9_of cX9_of 3 (some .int) [.ref 67, .int x1, .int x2] σ (some (.int p.1), p.2) := by
  refine hs_spec' (by decide +kernel) rfl (Nat.le_of_ble_eq_true rfl) ?_
  show PW RX9 cX9_of 3 (hs_zM (d + 3) (some .int) (some (.int p.1), p.2)) 0 [some (.ref 67), some (.int x1), some (.int x2)] [] σ
  rw [f_X9_of] at h
  refine pw_aload_n eX9_of_0 rfl ?_
  refine pw_iload_n eX9_of_1 rfl ?_
  obtain ⟨q1, g, h⟩ := hs_bind h
  refine pw_mV1i eX9_of_2 mv_X9_88 ob_67 (s_X9_isKind g) (Nat.le_of_ble_eq_true rfl) ?_
  refine pw_if_eq (tgt := 26) eX9_of_5 (by decide) (fun c => ?_) (fun c => ?_)
  · have h := hs_it c h
    refine pw_aload_n eX9_of_26 rfl ?_
    refine pw_bipush eX9_of_27 kb_m2 ?_
    obtain ⟨q2, g, h⟩ := hs_bind h
    refine pw_mV1i eX9_of_29 mv_X9_63 ob_67 (s_X9_refuses g) (Nat.le_of_ble_eq_true rfl) ?_
    exact pw_iret' eX9_of_32 h
  · have h := hs_ie c h
    refine pw_iload_n eX9_of_8 rfl ?_
    refine pw_iconst eX9_of_9 ki_0 ?_
    refine pw_iconst eX9_of_10 ki_4 ?_
    obtain ⟨q3, g, h⟩ := hs_bind h
    refine pw_mS3i eX9_of_11 ms_X9_74 (s_X9_in g) (Nat.le_of_ble_eq_true rfl) ?_
    refine pw_if_eq (tgt := 26) eX9_of_14 (by decide) (fun c => ?_) (fun c => ?_)
    · have h := hs_it c h
      refine pw_aload_n eX9_of_26 rfl ?_
      refine pw_bipush eX9_of_27 kb_m2 ?_
      obtain ⟨q4, g, h⟩ := hs_bind h
      refine pw_mV1i eX9_of_29 mv_X9_63 ob_67 (s_X9_refuses g) (Nat.le_of_ble_eq_true rfl) ?_
      exact pw_iret' eX9_of_32 h
    · have h := hs_ie c h
      refine pw_aload_n eX9_of_17 rfl ?_
      refine pw_iload_n eX9_of_18 rfl ?_
      refine pw_iload_n eX9_of_19 rfl ?_
      obtain ⟨q5, g, h⟩ := hs_bind h
      refine pw_mV2i eX9_of_20 mv_X9_210 ob_67 (s_X9_toldOfKind g) (Nat.le_of_ble_eq_true rfl) ?_
      refine pw_goto (pc' := 32) eX9_of_23 (by decide) ?_
      exact pw_iret' eX9_of_32 h

def f_X9_aboutOne_97 (rec : Int32 → Int32 → Int32 → Int32 → HS → Option (Int32 × HS)) (x1 : Int32) (x2 : Int32) (x4 : Int32) (t0 : Int32) (t1 : Int32) (t2 : Int32) (σ : HS) : Option (Int32 × HS) :=
  if t1 = t0 then
    rec x1 x2 (t2 + 1) (x4 + 1) σ
  else
    rec x1 x2 (t2 + 0) (x4 + 1) σ
set_option maxRecDepth 20000 in
theorem w_X9_aboutOne_97 {d : Nat} {p : Int32 × HS} {rec : Int32 → Int32 → Int32 → Int32 → HS → Option (Int32 × HS)} (hrec : ∀ (x1 : Int32) (x2 : Int32) (x3 : Int32) (x4 : Int32) (σ : HS), rec x1 x2 x3 x4 σ = some p → PW RX9 cX9_aboutOne 5 (hs_zM (d + 6) (some .int) (some (.int p.1), p.2)) 67 [some (.ref 67), some (.int x1), some (.int x2), some (.int x3), some (.int x4)] [] σ) : ∀ (x1 : Int32) (x2 : Int32) (x4 : Int32) (t0 : Int32) (t1 : Int32) (t2 : Int32) (σ : HS), f_X9_aboutOne_97 rec x1 x2 x4 t0 t1 t2 σ = some p → PW RX9 cX9_aboutOne 5 (hs_zM (d + 6) (some .int) (some (.int p.1), p.2)) 97 [some (.ref 67), some (.int x1), some (.int x2), none, some (.int x4)] [.int t0, .int t1, .int t2] σ := by
  intro x1 x2 x4 t0 t1 t2 σ h
  rw [f_X9_aboutOne_97] at h
  refine pw_icmp_ne (tgt := 104) eX9_aboutOne_97 (by decide) (fun c => ?_) (fun c => ?_)
  · have h := hs_ie c h
    refine pw_iconst eX9_aboutOne_104 ki_0 ?_
    refine pw_iadd eX9_aboutOne_105 ?_
    refine pw_istore_n eX9_aboutOne_106 rfl (by decide) rfl rfl ?_
    refine pw_iinc eX9_aboutOne_107 (by decide) rfl ki_1 rfl rfl ?_
    refine pw_goto (pc' := 67) eX9_aboutOne_110 (by decide) ?_
    exact hrec x1 x2 (t2 + 0) (x4 + 1) σ h
  · have h := hs_it c h
    refine pw_iconst eX9_aboutOne_100 ki_1 ?_
    refine pw_goto (pc' := 105) eX9_aboutOne_101 (by decide) ?_
    refine pw_iadd eX9_aboutOne_105 ?_
    refine pw_istore_n eX9_aboutOne_106 rfl (by decide) rfl rfl ?_
    refine pw_iinc eX9_aboutOne_107 (by decide) rfl ki_1 rfl rfl ?_
    refine pw_goto (pc' := 67) eX9_aboutOne_110 (by decide) ?_
    exact hrec x1 x2 (t2 + 1) (x4 + 1) σ h
def f_X9_aboutOne_67 : Nat → Int32 → Int32 → Int32 → Int32 → HS → Option (Int32 × HS)
  | 0, _, _, _, _, _ => none
  | n + 1, x1, x2, x3, x4, σ =>
    (ldI (σ.1 68) 66 23).bind fun v5 =>
    if v5 ≤ x4 then
      some (x3, σ)
    else
      (f_X9_needOf x1 x4 σ).bind fun q6 =>
      if x2 = 2 then
        f_X9_aboutOne_97 (f_X9_aboutOne_67 n) x1 x2 x4 1 q6.1 x3 q6.2
      else
        f_X9_aboutOne_97 (f_X9_aboutOne_67 n) x1 x2 x4 2 q6.1 x3 q6.2
set_option maxRecDepth 20000 in
theorem w_X9_aboutOne_67 {d : Nat} {p : Int32 × HS} : ∀ (n : Nat) (x1 : Int32) (x2 : Int32) (x3 : Int32) (x4 : Int32) (σ : HS), f_X9_aboutOne_67 n x1 x2 x3 x4 σ = some p → PW RX9 cX9_aboutOne 5 (hs_zM (d + 6) (some .int) (some (.int p.1), p.2)) 67 [some (.ref 67), some (.int x1), some (.int x2), some (.int x3), some (.int x4)] [] σ := by
  intro n
  induction n with
  | zero =>
    intro x1 x2 x3 x4 σ h
    rw [f_X9_aboutOne_67] at h
    cases h
  | succ n ih =>
    intro x1 x2 x3 x4 σ h
    rw [f_X9_aboutOne_67] at h
    refine pw_iload eX9_aboutOne_67 rfl ?_
    refine pw_aload_n eX9_aboutOne_69 rfl ?_
    refine pw_getR (r := 68) eX9_aboutOne_70 fl_X9_7 ob_67 rfl ?_
    refine pw_bipush eX9_aboutOne_73 kb_23 ?_
    obtain ⟨v5, g, h⟩ := hs_bind h
    refine pw_iald' eX9_aboutOne_75 ai_68 g ?_
    refine pw_icmp_ge (tgt := 113) eX9_aboutOne_76 (by decide) (fun c => ?_) (fun c => ?_)
    · have h := hs_it c h
      refine pw_iload_n eX9_aboutOne_113 rfl ?_
      exact pw_iret' eX9_aboutOne_114 h
    · have h := hs_ie c h
      refine pw_iload_n eX9_aboutOne_79 rfl ?_
      refine pw_aload_n eX9_aboutOne_80 rfl ?_
      refine pw_iload_n eX9_aboutOne_81 rfl ?_
      refine pw_iload eX9_aboutOne_82 rfl ?_
      obtain ⟨q6, g, h⟩ := hs_bind h
      refine pw_mV2i eX9_aboutOne_84 mv_X9_85 ob_67 (s_X9_needOf g) (Nat.le_of_ble_eq_true rfl) ?_
      refine pw_iload_n eX9_aboutOne_87 rfl ?_
      refine pw_iconst eX9_aboutOne_88 ki_2 ?_
      refine pw_icmp_ne (tgt := 96) eX9_aboutOne_89 (by decide) (fun c => ?_) (fun c => ?_)
      · have h := hs_ie c h
        refine pw_iconst eX9_aboutOne_96 ki_2 ?_
        exact pw_le (w_X9_aboutOne_97 ih x1 x2 x4 2 q6.1 x3 q6.2 h) ⟨rfl, rfl, rfl, rfl, trivial⟩
      · have h := hs_it c h
        refine pw_iconst eX9_aboutOne_92 ki_1 ?_
        refine pw_goto (pc' := 97) eX9_aboutOne_93 (by decide) ?_
        exact pw_le (w_X9_aboutOne_97 ih x1 x2 x4 1 q6.1 x3 q6.2 h) ⟨rfl, rfl, rfl, rfl, trivial⟩
def f_X9_aboutOne (x1 : Int32) (x2 : Int32) (σ : HS) : Option (Int32 × HS) :=
  (f_X9_findWays σ).bind fun σ1 =>
  if x2 = 0 then
    (ldI (σ1.1 68) 66 ((24 : Int32) + x1)).bind fun v2 =>
    some (v2, σ1)
  else if x2 = 1 then
    (ldI (σ1.1 76) 6 x1).bind fun v3 =>
    some (v3, σ1)
  else if x2 = 4 then
    (ldI (σ1.1 77) 6 x1).bind fun v4 =>
    some (v4, σ1)
  else 
    f_X9_aboutOne_67 FU x1 x2 0 0 σ1
set_option maxRecDepth 20000 in
theorem s_X9_aboutOne {d : Nat} {x1 : Int32} {x2 : Int32} {σ : HS} {p : Int32 × HS} (h : f_X9_aboutOne x1 x2 σ = some p) : hs_Spec (d + 6) yX9_aboutOne cX9_aboutOne 5 (some .int) [.ref 67, .int x1, .int x2] σ (some (.int p.1), p.2) := by
  refine hs_spec' (by decide +kernel) rfl (Nat.le_of_ble_eq_true rfl) ?_
  show PW RX9 cX9_aboutOne 5 (hs_zM (d + 6) (some .int) (some (.int p.1), p.2)) 0 [some (.ref 67), some (.int x1), some (.int x2), none, none] [] σ
  rw [f_X9_aboutOne] at h
  refine pw_aload_n eX9_aboutOne_0 rfl ?_
  obtain ⟨σ1, g, h⟩ := hs_bind h
  refine pw_mV0v eX9_aboutOne_1 mv_X9_165 ob_67 (s_X9_findWays g) (Nat.le_of_ble_eq_true rfl) ?_
  refine pw_iconst eX9_aboutOne_4 ki_0 ?_
  refine pw_istore_n eX9_aboutOne_5 rfl (by decide) rfl rfl ?_
  refine pw_iload_n eX9_aboutOne_6 rfl ?_
  by_cases c0 : x2 = 0
  · have h := hs_it c0 h
    refine pw_tin (pc' := 40) eX9_aboutOne_7 (by rw [c0]; decide) (by rw [c0]; decide) (by rw [c0]; rfl) (by decide) ?_
    refine pw_aload_n eX9_aboutOne_40 rfl ?_
    refine pw_getR (r := 68) eX9_aboutOne_41 fl_X9_7 ob_67 rfl ?_
    refine pw_bipush eX9_aboutOne_44 kb_24 ?_
    refine pw_iload_n eX9_aboutOne_46 rfl ?_
    refine pw_iadd eX9_aboutOne_47 ?_
    obtain ⟨v2, g, h⟩ := hs_bind h
    refine pw_iald' eX9_aboutOne_48 ai_68 g ?_
    exact pw_iret' eX9_aboutOne_49 h
  have h := hs_ie c0 h
  by_cases c1 : x2 = 1
  · have h := hs_it c1 h
    refine pw_tin (pc' := 50) eX9_aboutOne_7 (by rw [c1]; decide) (by rw [c1]; decide) (by rw [c1]; rfl) (by decide) ?_
    refine pw_aload_n eX9_aboutOne_50 rfl ?_
    refine pw_getR (r := 76) eX9_aboutOne_51 fl_X9_34 ob_67 rfl ?_
    refine pw_iload_n eX9_aboutOne_54 rfl ?_
    obtain ⟨v3, g, h⟩ := hs_bind h
    refine pw_iald' eX9_aboutOne_55 ai_76 g ?_
    exact pw_iret' eX9_aboutOne_56 h
  have h := hs_ie c1 h
  by_cases c2 : x2 = 4
  · have h := hs_it c2 h
    refine pw_tin (pc' := 57) eX9_aboutOne_7 (by rw [c2]; decide) (by rw [c2]; decide) (by rw [c2]; rfl) (by decide) ?_
    refine pw_aload_n eX9_aboutOne_57 rfl ?_
    refine pw_getR (r := 77) eX9_aboutOne_58 fl_X9_37 ob_67 rfl ?_
    refine pw_iload_n eX9_aboutOne_61 rfl ?_
    obtain ⟨v4, g, h⟩ := hs_bind h
    refine pw_iald' eX9_aboutOne_62 ai_77 g ?_
    exact pw_iret' eX9_aboutOne_63 h
  have h := hs_ie c2 h
  refine hs_cut ?_ (fun pd => ?_) (P := PW RX9 cX9_aboutOne 5 (hs_zM (d + 6) (some .int) (some (.int p.1), p.2)) 64 [some (.ref 67), some (.int x1), some (.int x2), some (.int 0), none] [] σ1)
  rotate_left
  · rcases hs_sw x2 0 4 with o | o | o
    · exact pw_tout eX9_aboutOne_7 (Or.inl o) (by decide) pd
    · exact pw_tout eX9_aboutOne_7 (Or.inr o) (by decide) pd
    · have d0 := hs_nl (z := 0) c0 (by decide); have d1 := hs_nl (z := 1) c1 (by decide); have d2 := hs_nl (z := 4) c2 (by decide); skip
      have ho : (x2).toInt = 2 ∨ (x2).toInt = 3 := by omega
      rcases ho with ho | ho
      · exact pw_tin eX9_aboutOne_7 (by rw [ho]; decide) (by rw [ho]; decide) (by rw [ho]; rfl) (by decide) pd
      · exact pw_tin eX9_aboutOne_7 (by rw [ho]; decide) (by rw [ho]; decide) (by rw [ho]; rfl) (by decide) pd
  refine pw_iconst eX9_aboutOne_64 ki_0 ?_
  refine pw_istore eX9_aboutOne_65 (by decide) rfl rfl ?_
  exact w_X9_aboutOne_67 FU x1 x2 0 0 σ1 h

def f_X9_about (x1 : Int32) (x2 : Int32) (σ : HS) : Option (Int32 × HS) :=
  (f_X9_isOne x1 σ).bind fun q1 =>
  if q1.1 = 0 then
    (f_X9_refuses (-2) q1.2).bind fun q2 =>
    some (q2.1, q2.2)
  else
    (f_X9_in x2 0 4 q1.2).bind fun q3 =>
    if q3.1 = 0 then
      (f_X9_refuses (-2) q3.2).bind fun q4 =>
      some (q4.1, q4.2)
    else
      (f_X9_aboutOne x1 x2 q3.2).bind fun q5 =>
      some (q5.1, q5.2)
set_option maxRecDepth 20000 in
theorem s_X9_about {d : Nat} {x1 : Int32} {x2 : Int32} {σ : HS} {p : Int32 × HS} (h : f_X9_about x1 x2 σ = some p) : hs_Spec (d + 7) yX9_about cX9_about 3 (some .int) [.ref 67, .int x1, .int x2] σ (some (.int p.1), p.2) := by
  refine hs_spec' (by decide +kernel) rfl (Nat.le_of_ble_eq_true rfl) ?_
  show PW RX9 cX9_about 3 (hs_zM (d + 7) (some .int) (some (.int p.1), p.2)) 0 [some (.ref 67), some (.int x1), some (.int x2)] [] σ
  rw [f_X9_about] at h
  refine pw_aload_n eX9_about_0 rfl ?_
  refine pw_iload_n eX9_about_1 rfl ?_
  obtain ⟨q1, g, h⟩ := hs_bind h
  refine pw_mV1i eX9_about_2 mv_X9_96 ob_67 (s_X9_isOne g) (Nat.le_of_ble_eq_true rfl) ?_
  refine pw_if_eq (tgt := 26) eX9_about_5 (by decide) (fun c => ?_) (fun c => ?_)
  · have h := hs_it c h
    refine pw_aload_n eX9_about_26 rfl ?_
    refine pw_bipush eX9_about_27 kb_m2 ?_
    obtain ⟨q2, g, h⟩ := hs_bind h
    refine pw_mV1i eX9_about_29 mv_X9_63 ob_67 (s_X9_refuses g) (Nat.le_of_ble_eq_true rfl) ?_
    exact pw_iret' eX9_about_32 h
  · have h := hs_ie c h
    refine pw_iload_n eX9_about_8 rfl ?_
    refine pw_iconst eX9_about_9 ki_0 ?_
    refine pw_iconst eX9_about_10 ki_4 ?_
    obtain ⟨q3, g, h⟩ := hs_bind h
    refine pw_mS3i eX9_about_11 ms_X9_74 (s_X9_in g) (Nat.le_of_ble_eq_true rfl) ?_
    refine pw_if_eq (tgt := 26) eX9_about_14 (by decide) (fun c => ?_) (fun c => ?_)
    · have h := hs_it c h
      refine pw_aload_n eX9_about_26 rfl ?_
      refine pw_bipush eX9_about_27 kb_m2 ?_
      obtain ⟨q4, g, h⟩ := hs_bind h
      refine pw_mV1i eX9_about_29 mv_X9_63 ob_67 (s_X9_refuses g) (Nat.le_of_ble_eq_true rfl) ?_
      exact pw_iret' eX9_about_32 h
    · have h := hs_ie c h
      refine pw_aload_n eX9_about_17 rfl ?_
      refine pw_iload_n eX9_about_18 rfl ?_
      refine pw_iload_n eX9_about_19 rfl ?_
      obtain ⟨q5, g, h⟩ := hs_bind h
      refine pw_mV2i eX9_about_20 mv_X9_213 ob_67 (s_X9_aboutOne g) (Nat.le_of_ble_eq_true rfl) ?_
      refine pw_goto (pc' := 32) eX9_about_23 (by decide) ?_
      exact pw_iret' eX9_about_32 h

def f_X9_type (x1 : Int32) (σ : HS) : Option (Int32 × HS) :=
  (f_X9_in x1 0 127 σ).bind fun q1 =>
  if q1.1 = 0 then
    (f_X9_refuses (-2) q1.2).bind fun q4 =>
    some (q4.1, q4.2)
  else
    if (q1.2.1 67 18) = 120 then
      (f_X9_refuses (-4) q1.2).bind fun q3 =>
      some (q3.1, q3.2)
    else
      (stI q1.2 81 120 (q1.2.1 67 18) x1).bind fun σ2 =>
      some (((sI σ2 67 18 ((σ2.1 67 18) + 1)).1 67 18), (sI σ2 67 18 ((σ2.1 67 18) + 1)))
set_option maxRecDepth 20000 in
theorem s_X9_type {d : Nat} {x1 : Int32} {σ : HS} {p : Int32 × HS} (h : f_X9_type x1 σ = some p) : hs_Spec (d + 2) yX9_type cX9_type 2 (some .int) [.ref 67, .int x1] σ (some (.int p.1), p.2) := by
  refine hs_spec' (by decide +kernel) rfl (Nat.le_of_ble_eq_true rfl) ?_
  show PW RX9 cX9_type 2 (hs_zM (d + 2) (some .int) (some (.int p.1), p.2)) 0 [some (.ref 67), some (.int x1)] [] σ
  rw [f_X9_type] at h
  refine pw_iload_n eX9_type_0 rfl ?_
  refine pw_iconst eX9_type_1 ki_0 ?_
  refine pw_bipush eX9_type_2 kb_127 ?_
  obtain ⟨q1, g, h⟩ := hs_bind h
  refine pw_mS3i eX9_type_4 ms_X9_74 (s_X9_in g) (Nat.le_of_ble_eq_true rfl) ?_
  refine pw_if_ne (tgt := 17) eX9_type_7 (by decide) (fun c => ?_) (fun c => ?_)
  · have h := hs_ie c h
    refine pw_aload_n eX9_type_17 rfl ?_
    refine pw_getI eX9_type_18 fl_X9_216 ob_67 rfl ?_
    refine pw_bipush eX9_type_21 kb_120 ?_
    refine pw_icmp_ne (tgt := 33) eX9_type_23 (by decide) (fun c => ?_) (fun c => ?_)
    · have h := hs_ie c h
      refine pw_aload_n eX9_type_33 rfl ?_
      refine pw_getR (r := 81) eX9_type_34 fl_X9_50 ob_67 rfl ?_
      refine pw_aload_n eX9_type_37 rfl ?_
      refine pw_getI eX9_type_38 fl_X9_216 ob_67 rfl ?_
      refine pw_iload_n eX9_type_41 rfl ?_
      obtain ⟨σ2, g, h⟩ := hs_bind h
      refine pw_iast' eX9_type_42 ai_81 g ?_
      refine pw_aload_n eX9_type_43 rfl ?_
      refine pw_dup eX9_type_44 rfl ?_
      refine pw_getI eX9_type_45 fl_X9_216 ob_67 rfl ?_
      refine pw_iconst eX9_type_48 ki_1 ?_
      refine pw_iadd eX9_type_49 ?_
      refine pw_putI eX9_type_50 fw_X9_216 ob_67 rfl ?_
      refine pw_aload_n eX9_type_53 rfl ?_
      refine pw_getI eX9_type_54 fl_X9_216 ob_67 rfl ?_
      exact pw_iret' eX9_type_57 h
    · have h := hs_it c h
      refine pw_aload_n eX9_type_26 rfl ?_
      refine pw_bipush eX9_type_27 kb_m4 ?_
      obtain ⟨q3, g, h⟩ := hs_bind h
      refine pw_mV1i eX9_type_29 mv_X9_63 ob_67 (s_X9_refuses g) (Nat.le_of_ble_eq_true rfl) ?_
      exact pw_iret' eX9_type_32 h
  · have h := hs_it c h
    refine pw_aload_n eX9_type_10 rfl ?_
    refine pw_bipush eX9_type_11 kb_m2 ?_
    obtain ⟨q4, g, h⟩ := hs_bind h
    refine pw_mV1i eX9_type_13 mv_X9_63 ob_67 (s_X9_refuses g) (Nat.le_of_ble_eq_true rfl) ?_
    exact pw_iret' eX9_type_16 h

def f_X9_clear (σ : HS) : Option (Int32 × HS) :=
  some ((σ.1 67 18), (sI σ 67 18 0))
set_option maxRecDepth 20000 in
theorem s_X9_clear {d : Nat} {σ : HS} {p : Int32 × HS} (h : f_X9_clear σ = some p) : hs_Spec (d + 1) yX9_clear cX9_clear 2 (some .int) [.ref 67] σ (some (.int p.1), p.2) := by
  refine hs_spec' (by decide +kernel) rfl (Nat.le_of_ble_eq_true rfl) ?_
  show PW RX9 cX9_clear 2 (hs_zM (d + 1) (some .int) (some (.int p.1), p.2)) 0 [some (.ref 67), none] [] σ
  rw [f_X9_clear] at h
  refine pw_aload_n eX9_clear_0 rfl ?_
  refine pw_getI eX9_clear_1 fl_X9_216 ob_67 rfl ?_
  refine pw_istore_n eX9_clear_4 rfl (by decide) rfl rfl ?_
  refine pw_aload_n eX9_clear_5 rfl ?_
  refine pw_iconst eX9_clear_6 ki_0 ?_
  refine pw_putI eX9_clear_7 fw_X9_216 ob_67 rfl ?_
  refine pw_iload_n eX9_clear_10 rfl ?_
  exact pw_iret' eX9_clear_11 h

def f_X9_here_38 (σ : HS) : Option (Int32 × HS) :=
  if (σ.1 67 18) ≤ (σ.1 67 19) then
    some ((-1), σ)
  else
    (ldI (σ.1 81) 120 (σ.1 67 19)).bind fun v1 =>
    some (v1, σ)
set_option maxRecDepth 20000 in
theorem w_X9_here_38 {d : Nat} {p : Int32 × HS} : ∀ (σ : HS), f_X9_here_38 σ = some p → PW RX9 cX9_here 1 (hs_zM (d + 1) (some .int) (some (.int p.1), p.2)) 38 [some (.ref 67)] [] σ := by
  intro σ h
  rw [f_X9_here_38] at h
  refine pw_aload_n eX9_here_38 rfl ?_
  refine pw_getI eX9_here_39 fl_X9_219 ob_67 rfl ?_
  refine pw_aload_n eX9_here_42 rfl ?_
  refine pw_getI eX9_here_43 fl_X9_216 ob_67 rfl ?_
  refine pw_icmp_ge (tgt := 61) eX9_here_46 (by decide) (fun c => ?_) (fun c => ?_)
  · have h := hs_it c h
    refine pw_iconst eX9_here_61 ki_m1 ?_
    exact pw_iret' eX9_here_62 h
  · have h := hs_ie c h
    refine pw_aload_n eX9_here_49 rfl ?_
    refine pw_getR (r := 81) eX9_here_50 fl_X9_50 ob_67 rfl ?_
    refine pw_aload_n eX9_here_53 rfl ?_
    refine pw_getI eX9_here_54 fl_X9_219 ob_67 rfl ?_
    obtain ⟨v1, g, h⟩ := hs_bind h
    refine pw_iald' eX9_here_57 ai_81 g ?_
    refine pw_goto (pc' := 62) eX9_here_58 (by decide) ?_
    exact pw_iret' eX9_here_62 h
def f_X9_here_0 : Nat → HS → Option (Int32 × HS)
  | 0, _ => none
  | n + 1, σ =>
    if (σ.1 67 18) ≤ (σ.1 67 19) then
      f_X9_here_38 σ
    else
      (ldI (σ.1 81) 120 (σ.1 67 19)).bind fun v2 =>
      if v2 = 32 then
        f_X9_here_0 n (sI σ 67 19 ((σ.1 67 19) + 1))
      else
        f_X9_here_38 σ
set_option maxRecDepth 20000 in
theorem w_X9_here_0 {d : Nat} {p : Int32 × HS} : ∀ (n : Nat) (σ : HS), f_X9_here_0 n σ = some p → PW RX9 cX9_here 1 (hs_zM (d + 1) (some .int) (some (.int p.1), p.2)) 0 [some (.ref 67)] [] σ := by
  intro n
  induction n with
  | zero =>
    intro σ h
    rw [f_X9_here_0] at h
    cases h
  | succ n ih =>
    intro σ h
    rw [f_X9_here_0] at h
    refine pw_aload_n eX9_here_0 rfl ?_
    refine pw_getI eX9_here_1 fl_X9_219 ob_67 rfl ?_
    refine pw_aload_n eX9_here_4 rfl ?_
    refine pw_getI eX9_here_5 fl_X9_216 ob_67 rfl ?_
    refine pw_icmp_ge (tgt := 38) eX9_here_8 (by decide) (fun c => ?_) (fun c => ?_)
    · have h := hs_it c h
      exact w_X9_here_38 σ h
    · have h := hs_ie c h
      refine pw_aload_n eX9_here_11 rfl ?_
      refine pw_getR (r := 81) eX9_here_12 fl_X9_50 ob_67 rfl ?_
      refine pw_aload_n eX9_here_15 rfl ?_
      refine pw_getI eX9_here_16 fl_X9_219 ob_67 rfl ?_
      obtain ⟨v2, g, h⟩ := hs_bind h
      refine pw_iald' eX9_here_19 ai_81 g ?_
      refine pw_bipush eX9_here_20 kb_32 ?_
      refine pw_icmp_ne (tgt := 38) eX9_here_22 (by decide) (fun c => ?_) (fun c => ?_)
      · have h := hs_ie c h
        exact w_X9_here_38 σ h
      · have h := hs_it c h
        refine pw_aload_n eX9_here_25 rfl ?_
        refine pw_dup eX9_here_26 rfl ?_
        refine pw_getI eX9_here_27 fl_X9_219 ob_67 rfl ?_
        refine pw_iconst eX9_here_30 ki_1 ?_
        refine pw_iadd eX9_here_31 ?_
        refine pw_putI eX9_here_32 fw_X9_219 ob_67 rfl ?_
        refine pw_goto (pc' := 0) eX9_here_35 (by decide) ?_
        exact ih (sI σ 67 19 ((σ.1 67 19) + 1)) h
def f_X9_here (σ : HS) : Option (Int32 × HS) :=
  f_X9_here_0 FU σ
set_option maxRecDepth 20000 in
theorem s_X9_here {d : Nat} {σ : HS} {p : Int32 × HS} (h : f_X9_here σ = some p) : hs_Spec (d + 1) yX9_here cX9_here 1 (some .int) [.ref 67] σ (some (.int p.1), p.2) := by
  refine hs_spec' (by decide +kernel) rfl (Nat.le_of_ble_eq_true rfl) ?_
  show PW RX9 cX9_here 1 (hs_zM (d + 1) (some .int) (some (.int p.1), p.2)) 0 [some (.ref 67)] [] σ
  rw [f_X9_here] at h
  exact w_X9_here_0 FU σ h

def f_X9_must (x1 : Int32) (σ : HS) : Option (HS) :=
  if (σ.1 67 20) = (-1) then
    if x1 = 0 then
      some (sI σ 67 20 (σ.1 67 19))
    else
      some σ
  else
    some σ
set_option maxRecDepth 20000 in
theorem s_X9_must {d : Nat} {x1 : Int32} {σ : HS} {p : HS} (h : f_X9_must x1 σ = some p) : hs_Spec (d + 1) yX9_must cX9_must 2 none [.ref 67, .int x1] σ (none, p) := by
  refine hs_spec' (by decide +kernel) rfl (Nat.le_of_ble_eq_true rfl) ?_
  show PW RX9 cX9_must 2 (hs_zM (d + 1) none (none, p)) 0 [some (.ref 67), some (.int x1)] [] σ
  rw [f_X9_must] at h
  refine pw_aload_n eX9_must_0 rfl ?_
  refine pw_getI eX9_must_1 fl_X9_222 ob_67 rfl ?_
  refine pw_iconst eX9_must_4 ki_m1 ?_
  refine pw_icmp_ne (tgt := 20) eX9_must_5 (by decide) (fun c => ?_) (fun c => ?_)
  · have h := hs_ie c h
    exact pw_vret' eX9_must_20 h
  · have h := hs_it c h
    refine pw_iload_n eX9_must_8 rfl ?_
    refine pw_if_ne (tgt := 20) eX9_must_9 (by decide) (fun c => ?_) (fun c => ?_)
    · have h := hs_ie c h
      exact pw_vret' eX9_must_20 h
    · have h := hs_it c h
      refine pw_aload_n eX9_must_12 rfl ?_
      refine pw_aload_n eX9_must_13 rfl ?_
      refine pw_getI eX9_must_14 fl_X9_219 ob_67 rfl ?_
      refine pw_putI eX9_must_17 fw_X9_222 ob_67 rfl ?_
      exact pw_vret' eX9_must_20 h

def f_X9_isFigure (σ : HS) : Option (Int32 × HS) :=
  if (σ.1 67 18) ≤ (σ.1 67 19) then
    some (0, σ)
  else
    (ldI (σ.1 81) 120 (σ.1 67 19)).bind fun v1 =>
    (f_X9_in v1 48 57 σ).bind fun q2 =>
    if q2.1 = 0 then
      some (0, q2.2)
    else
      some (1, q2.2)
set_option maxRecDepth 20000 in
theorem s_X9_isFigure {d : Nat} {σ : HS} {p : Int32 × HS} (h : f_X9_isFigure σ = some p) : hs_Spec (d + 2) yX9_isFigure cX9_isFigure 1 (some .boolean) [.ref 67] σ (some (.int p.1), p.2) := by
  refine hs_spec' (by decide +kernel) rfl (Nat.le_of_ble_eq_true rfl) ?_
  show PW RX9 cX9_isFigure 1 (hs_zM (d + 2) (some .boolean) (some (.int p.1), p.2)) 0 [some (.ref 67)] [] σ
  rw [f_X9_isFigure] at h
  refine pw_aload_n eX9_isFigure_0 rfl ?_
  refine pw_getI eX9_isFigure_1 fl_X9_219 ob_67 rfl ?_
  refine pw_aload_n eX9_isFigure_4 rfl ?_
  refine pw_getI eX9_isFigure_5 fl_X9_216 ob_67 rfl ?_
  refine pw_icmp_ge (tgt := 34) eX9_isFigure_8 (by decide) (fun c => ?_) (fun c => ?_)
  · have h := hs_it c h
    refine pw_iconst eX9_isFigure_34 ki_0 ?_
    exact pw_zret' eX9_isFigure_35 narrow_b0 h
  · have h := hs_ie c h
    refine pw_aload_n eX9_isFigure_11 rfl ?_
    refine pw_getR (r := 81) eX9_isFigure_12 fl_X9_50 ob_67 rfl ?_
    refine pw_aload_n eX9_isFigure_15 rfl ?_
    refine pw_getI eX9_isFigure_16 fl_X9_219 ob_67 rfl ?_
    obtain ⟨v1, g, h⟩ := hs_bind h
    refine pw_iald' eX9_isFigure_19 ai_81 g ?_
    refine pw_bipush eX9_isFigure_20 kb_48 ?_
    refine pw_bipush eX9_isFigure_22 kb_57 ?_
    obtain ⟨q2, g, h⟩ := hs_bind h
    refine pw_mS3i eX9_isFigure_24 ms_X9_74 (s_X9_in g) (Nat.le_of_ble_eq_true rfl) ?_
    refine pw_if_eq (tgt := 34) eX9_isFigure_27 (by decide) (fun c => ?_) (fun c => ?_)
    · have h := hs_it c h
      refine pw_iconst eX9_isFigure_34 ki_0 ?_
      exact pw_zret' eX9_isFigure_35 narrow_b0 h
    · have h := hs_ie c h
      refine pw_iconst eX9_isFigure_30 ki_1 ?_
      refine pw_goto (pc' := 35) eX9_isFigure_31 (by decide) ?_
      exact pw_zret' eX9_isFigure_35 narrow_b1 h

def f_X9_figures_65 (x1 : Int32) (σ : HS) : Option (Int32 × HS) :=
  (f_X9_isFigure σ).bind fun q4 =>
  if q4.1 = 0 then
    (f_X9_must 1 q4.2).bind fun σ6 =>
    some (x1, σ6)
  else
    (f_X9_must 0 q4.2).bind fun σ5 =>
    some (x1, σ5)
set_option maxRecDepth 20000 in
theorem w_X9_figures_65 {d : Nat} {p : Int32 × HS} : ∀ (x1 : Int32) (σ : HS), f_X9_figures_65 x1 σ = some p → PW RX9 cX9_figures 3 (hs_zM (d + 3) (some .int) (some (.int p.1), p.2)) 65 [some (.ref 67), some (.int x1), none] [] σ := by
  intro x1 σ h
  rw [f_X9_figures_65] at h
  refine pw_aload_n eX9_figures_65 rfl ?_
  refine pw_aload_n eX9_figures_66 rfl ?_
  obtain ⟨q4, g, h⟩ := hs_bind h
  refine pw_mV0i eX9_figures_67 mv_X9_232 ob_67 (s_X9_isFigure g) (Nat.le_of_ble_eq_true rfl) ?_
  refine pw_if_ne (tgt := 77) eX9_figures_70 (by decide) (fun c => ?_) (fun c => ?_)
  · have h := hs_ie c h
    refine pw_iconst eX9_figures_77 ki_0 ?_
    obtain ⟨σ5, g, h⟩ := hs_bind h
    refine pw_mV1v eX9_figures_78 mv_X9_228 ob_67 (s_X9_must g) (Nat.le_of_ble_eq_true rfl) ?_
    refine pw_iload_n eX9_figures_81 rfl ?_
    exact pw_iret' eX9_figures_82 h
  · have h := hs_it c h
    refine pw_iconst eX9_figures_73 ki_1 ?_
    refine pw_goto (pc' := 78) eX9_figures_74 (by decide) ?_
    obtain ⟨σ6, g, h⟩ := hs_bind h
    refine pw_mV1v eX9_figures_78 mv_X9_228 ob_67 (s_X9_must g) (Nat.le_of_ble_eq_true rfl) ?_
    refine pw_iload_n eX9_figures_81 rfl ?_
    exact pw_iret' eX9_figures_82 h
def f_X9_figures_19 : Nat → Int32 → Int32 → HS → Option (Int32 × HS)
  | 0, _, _, _ => none
  | n + 1, x1, x2, σ =>
    if (2 : Int32) ≤ x2 then
      f_X9_figures_65 x1 σ
    else
      (f_X9_isFigure σ).bind fun q7 =>
      if q7.1 = 0 then
        f_X9_figures_65 x1 q7.2
      else
        (ldI (q7.2.1 81) 120 (q7.2.1 67 19)).bind fun v8 =>
        f_X9_figures_19 n ((((10 : Int32) * x1) + v8) - 48) (x2 + 1) (sI q7.2 67 19 ((q7.2.1 67 19) + 1))
set_option maxRecDepth 20000 in
theorem w_X9_figures_19 {d : Nat} {p : Int32 × HS} : ∀ (n : Nat) (x1 : Int32) (x2 : Int32) (σ : HS), f_X9_figures_19 n x1 x2 σ = some p → PW RX9 cX9_figures 3 (hs_zM (d + 3) (some .int) (some (.int p.1), p.2)) 19 [some (.ref 67), some (.int x1), some (.int x2)] [] σ := by
  intro n
  induction n with
  | zero =>
    intro x1 x2 σ h
    rw [f_X9_figures_19] at h
    cases h
  | succ n ih =>
    intro x1 x2 σ h
    rw [f_X9_figures_19] at h
    refine pw_iload_n eX9_figures_19 rfl ?_
    refine pw_iconst eX9_figures_20 ki_2 ?_
    refine pw_icmp_ge (tgt := 65) eX9_figures_21 (by decide) (fun c => ?_) (fun c => ?_)
    · have h := hs_it c h
      exact pw_le (w_X9_figures_65 x1 σ h) ⟨rfl, rfl, trivial⟩
    · have h := hs_ie c h
      refine pw_aload_n eX9_figures_24 rfl ?_
      obtain ⟨q7, g, h⟩ := hs_bind h
      refine pw_mV0i eX9_figures_25 mv_X9_232 ob_67 (s_X9_isFigure g) (Nat.le_of_ble_eq_true rfl) ?_
      refine pw_if_eq (tgt := 65) eX9_figures_28 (by decide) (fun c => ?_) (fun c => ?_)
      · have h := hs_it c h
        exact pw_le (w_X9_figures_65 x1 q7.2 h) ⟨rfl, rfl, trivial⟩
      · have h := hs_ie c h
        refine pw_bipush eX9_figures_31 kb_10 ?_
        refine pw_iload_n eX9_figures_33 rfl ?_
        refine pw_imul eX9_figures_34 ?_
        refine pw_aload_n eX9_figures_35 rfl ?_
        refine pw_getR (r := 81) eX9_figures_36 fl_X9_50 ob_67 rfl ?_
        refine pw_aload_n eX9_figures_39 rfl ?_
        refine pw_getI eX9_figures_40 fl_X9_219 ob_67 rfl ?_
        obtain ⟨v8, g, h⟩ := hs_bind h
        refine pw_iald' eX9_figures_43 ai_81 g ?_
        refine pw_iadd eX9_figures_44 ?_
        refine pw_bipush eX9_figures_45 kb_48 ?_
        refine pw_isub eX9_figures_47 ?_
        refine pw_istore_n eX9_figures_48 rfl (by decide) rfl rfl ?_
        refine pw_aload_n eX9_figures_49 rfl ?_
        refine pw_dup eX9_figures_50 rfl ?_
        refine pw_getI eX9_figures_51 fl_X9_219 ob_67 rfl ?_
        refine pw_iconst eX9_figures_54 ki_1 ?_
        refine pw_iadd eX9_figures_55 ?_
        refine pw_putI eX9_figures_56 fw_X9_219 ob_67 rfl ?_
        refine pw_iinc eX9_figures_59 (by decide) rfl ki_1 rfl rfl ?_
        refine pw_goto (pc' := 19) eX9_figures_62 (by decide) ?_
        exact ih ((((10 : Int32) * x1) + v8) - 48) (x2 + 1) (sI q7.2 67 19 ((q7.2.1 67 19) + 1)) h
def f_X9_figures (σ : HS) : Option (Int32 × HS) :=
  (f_X9_here σ).bind fun q1 =>
  (f_X9_in q1.1 48 57 q1.2).bind fun q2 =>
  (f_X9_must q2.1 q2.2).bind fun σ3 =>
  f_X9_figures_19 FU 0 0 σ3
set_option maxRecDepth 20000 in
theorem s_X9_figures {d : Nat} {σ : HS} {p : Int32 × HS} (h : f_X9_figures σ = some p) : hs_Spec (d + 3) yX9_figures cX9_figures 3 (some .int) [.ref 67] σ (some (.int p.1), p.2) := by
  refine hs_spec' (by decide +kernel) rfl (Nat.le_of_ble_eq_true rfl) ?_
  show PW RX9 cX9_figures 3 (hs_zM (d + 3) (some .int) (some (.int p.1), p.2)) 0 [some (.ref 67), none, none] [] σ
  rw [f_X9_figures] at h
  refine pw_aload_n eX9_figures_0 rfl ?_
  refine pw_aload_n eX9_figures_1 rfl ?_
  obtain ⟨q1, g, h⟩ := hs_bind h
  refine pw_mV0i eX9_figures_2 mv_X9_225 ob_67 (s_X9_here g) (Nat.le_of_ble_eq_true rfl) ?_
  refine pw_bipush eX9_figures_5 kb_48 ?_
  refine pw_bipush eX9_figures_7 kb_57 ?_
  obtain ⟨q2, g, h⟩ := hs_bind h
  refine pw_mS3i eX9_figures_9 ms_X9_74 (s_X9_in g) (Nat.le_of_ble_eq_true rfl) ?_
  obtain ⟨σ3, g, h⟩ := hs_bind h
  refine pw_mV1v eX9_figures_12 mv_X9_228 ob_67 (s_X9_must g) (Nat.le_of_ble_eq_true rfl) ?_
  refine pw_iconst eX9_figures_15 ki_0 ?_
  refine pw_istore_n eX9_figures_16 rfl (by decide) rfl rfl ?_
  refine pw_iconst eX9_figures_17 ki_0 ?_
  refine pw_istore_n eX9_figures_18 rfl (by decide) rfl rfl ?_
  exact w_X9_figures_19 FU 0 0 σ3 h

def f_X9_numbersOf (x0 : Int32) (σ : HS) : Option (Int32 × HS) :=
  if x0 = 97 then
    some (2, σ)
  else if x0 = 105 then
    some (1, σ)
  else if x0 = 107 then
    some (4, σ)
  else if x0 = 110 then
    some (2, σ)
  else if x0 = 114 then
    some (1, σ)
  else if x0 = 119 then
    some (1, σ)
  else if x0 = 120 then
    some (1, σ)
  else 
    some ((-1), σ)
set_option maxRecDepth 20000 in
theorem s_X9_numbersOf {d : Nat} {x0 : Int32} {σ : HS} {p : Int32 × HS} (h : f_X9_numbersOf x0 σ = some p) : hs_Spec (d + 1) yX9_numbersOf cX9_numbersOf 1 (some .int) [.int x0] σ (some (.int p.1), p.2) := by
  refine hs_spec' (by decide +kernel) rfl (Nat.le_of_ble_eq_true rfl) ?_
  show PW RX9 cX9_numbersOf 1 (hs_zM (d + 1) (some .int) (some (.int p.1), p.2)) 0 [some (.int x0)] [] σ
  rw [f_X9_numbersOf] at h
  refine pw_iload_n eX9_numbersOf_0 rfl ?_
  by_cases c0 : x0 = 97
  · have h := hs_it c0 h
    refine pw_tin (pc' := 114) eX9_numbersOf_1 (by rw [c0]; decide) (by rw [c0]; decide) (by rw [c0]; rfl) (by decide) ?_
    refine pw_iconst eX9_numbersOf_114 ki_2 ?_
    exact pw_iret' eX9_numbersOf_115 h
  have h := hs_ie c0 h
  by_cases c1 : x0 = 105
  · have h := hs_it c1 h
    refine pw_tin (pc' := 116) eX9_numbersOf_1 (by rw [c1]; decide) (by rw [c1]; decide) (by rw [c1]; rfl) (by decide) ?_
    refine pw_iconst eX9_numbersOf_116 ki_1 ?_
    exact pw_iret' eX9_numbersOf_117 h
  have h := hs_ie c1 h
  by_cases c2 : x0 = 107
  · have h := hs_it c2 h
    refine pw_tin (pc' := 112) eX9_numbersOf_1 (by rw [c2]; decide) (by rw [c2]; decide) (by rw [c2]; rfl) (by decide) ?_
    refine pw_iconst eX9_numbersOf_112 ki_4 ?_
    exact pw_iret' eX9_numbersOf_113 h
  have h := hs_ie c2 h
  by_cases c3 : x0 = 110
  · have h := hs_it c3 h
    refine pw_tin (pc' := 114) eX9_numbersOf_1 (by rw [c3]; decide) (by rw [c3]; decide) (by rw [c3]; rfl) (by decide) ?_
    refine pw_iconst eX9_numbersOf_114 ki_2 ?_
    exact pw_iret' eX9_numbersOf_115 h
  have h := hs_ie c3 h
  by_cases c4 : x0 = 114
  · have h := hs_it c4 h
    refine pw_tin (pc' := 116) eX9_numbersOf_1 (by rw [c4]; decide) (by rw [c4]; decide) (by rw [c4]; rfl) (by decide) ?_
    refine pw_iconst eX9_numbersOf_116 ki_1 ?_
    exact pw_iret' eX9_numbersOf_117 h
  have h := hs_ie c4 h
  by_cases c5 : x0 = 119
  · have h := hs_it c5 h
    refine pw_tin (pc' := 116) eX9_numbersOf_1 (by rw [c5]; decide) (by rw [c5]; decide) (by rw [c5]; rfl) (by decide) ?_
    refine pw_iconst eX9_numbersOf_116 ki_1 ?_
    exact pw_iret' eX9_numbersOf_117 h
  have h := hs_ie c5 h
  by_cases c6 : x0 = 120
  · have h := hs_it c6 h
    refine pw_tin (pc' := 116) eX9_numbersOf_1 (by rw [c6]; decide) (by rw [c6]; decide) (by rw [c6]; rfl) (by decide) ?_
    refine pw_iconst eX9_numbersOf_116 ki_1 ?_
    exact pw_iret' eX9_numbersOf_117 h
  have h := hs_ie c6 h
  refine hs_cut ?_ (fun pd => ?_) (P := PW RX9 cX9_numbersOf 1 (hs_zM (d + 1) (some .int) (some (.int p.1), p.2)) 118 [some (.int x0)] [] σ)
  rotate_left
  · rcases hs_sw x0 97 120 with o | o | o
    · exact pw_tout eX9_numbersOf_1 (Or.inl o) (by decide) pd
    · exact pw_tout eX9_numbersOf_1 (Or.inr o) (by decide) pd
    · have d0 := hs_nl (z := 97) c0 (by decide); have d1 := hs_nl (z := 105) c1 (by decide); have d2 := hs_nl (z := 107) c2 (by decide); have d3 := hs_nl (z := 110) c3 (by decide); have d4 := hs_nl (z := 114) c4 (by decide); have d5 := hs_nl (z := 119) c5 (by decide); have d6 := hs_nl (z := 120) c6 (by decide); skip
      have ho : (x0).toInt = 98 ∨ (x0).toInt = 99 ∨ (x0).toInt = 100 ∨ (x0).toInt = 101 ∨ (x0).toInt = 102 ∨ (x0).toInt = 103 ∨ (x0).toInt = 104 ∨ (x0).toInt = 106 ∨ (x0).toInt = 108 ∨ (x0).toInt = 109 ∨ (x0).toInt = 111 ∨ (x0).toInt = 112 ∨ (x0).toInt = 113 ∨ (x0).toInt = 115 ∨ (x0).toInt = 116 ∨ (x0).toInt = 117 ∨ (x0).toInt = 118 := by omega
      rcases ho with ho | ho | ho | ho | ho | ho | ho | ho | ho | ho | ho | ho | ho | ho | ho | ho | ho
      · exact pw_tin eX9_numbersOf_1 (by rw [ho]; decide) (by rw [ho]; decide) (by rw [ho]; rfl) (by decide) pd
      · exact pw_tin eX9_numbersOf_1 (by rw [ho]; decide) (by rw [ho]; decide) (by rw [ho]; rfl) (by decide) pd
      · exact pw_tin eX9_numbersOf_1 (by rw [ho]; decide) (by rw [ho]; decide) (by rw [ho]; rfl) (by decide) pd
      · exact pw_tin eX9_numbersOf_1 (by rw [ho]; decide) (by rw [ho]; decide) (by rw [ho]; rfl) (by decide) pd
      · exact pw_tin eX9_numbersOf_1 (by rw [ho]; decide) (by rw [ho]; decide) (by rw [ho]; rfl) (by decide) pd
      · exact pw_tin eX9_numbersOf_1 (by rw [ho]; decide) (by rw [ho]; decide) (by rw [ho]; rfl) (by decide) pd
      · exact pw_tin eX9_numbersOf_1 (by rw [ho]; decide) (by rw [ho]; decide) (by rw [ho]; rfl) (by decide) pd
      · exact pw_tin eX9_numbersOf_1 (by rw [ho]; decide) (by rw [ho]; decide) (by rw [ho]; rfl) (by decide) pd
      · exact pw_tin eX9_numbersOf_1 (by rw [ho]; decide) (by rw [ho]; decide) (by rw [ho]; rfl) (by decide) pd
      · exact pw_tin eX9_numbersOf_1 (by rw [ho]; decide) (by rw [ho]; decide) (by rw [ho]; rfl) (by decide) pd
      · exact pw_tin eX9_numbersOf_1 (by rw [ho]; decide) (by rw [ho]; decide) (by rw [ho]; rfl) (by decide) pd
      · exact pw_tin eX9_numbersOf_1 (by rw [ho]; decide) (by rw [ho]; decide) (by rw [ho]; rfl) (by decide) pd
      · exact pw_tin eX9_numbersOf_1 (by rw [ho]; decide) (by rw [ho]; decide) (by rw [ho]; rfl) (by decide) pd
      · exact pw_tin eX9_numbersOf_1 (by rw [ho]; decide) (by rw [ho]; decide) (by rw [ho]; rfl) (by decide) pd
      · exact pw_tin eX9_numbersOf_1 (by rw [ho]; decide) (by rw [ho]; decide) (by rw [ho]; rfl) (by decide) pd
      · exact pw_tin eX9_numbersOf_1 (by rw [ho]; decide) (by rw [ho]; decide) (by rw [ho]; rfl) (by decide) pd
      · exact pw_tin eX9_numbersOf_1 (by rw [ho]; decide) (by rw [ho]; decide) (by rw [ho]; rfl) (by decide) pd
  refine pw_iconst eX9_numbersOf_118 ki_m1 ?_
  exact pw_iret' eX9_numbersOf_119 h

def f_X9_readOrder_102 (x1 : Int32) (t0 : Int32) (σ : HS) : Option (HS) :=
  (f_X9_must t0 σ).bind fun σ4 =>
  (stI σ4 82 50 (σ4.1 67 21) x1).bind fun σ5 =>
  some (sI (sI σ5 67 19 ((σ5.1 67 19) + 1)) 67 21 (((sI σ5 67 19 ((σ5.1 67 19) + 1)).1 67 21) + 1))
set_option maxRecDepth 20000 in
theorem w_X9_readOrder_102 {d : Nat} {p : HS} : ∀ (x1 : Int32) (t0 : Int32) (σ : HS), f_X9_readOrder_102 x1 t0 σ = some p → PW RX9 cX9_readOrder 4 (hs_zM (d + 4) none (none, p)) 102 [some (.ref 67), some (.int x1), none, none] [.int t0, .ref 67] σ := by
  intro x1 t0 σ h
  rw [f_X9_readOrder_102] at h
  obtain ⟨σ4, g, h⟩ := hs_bind h
  refine pw_mV1v eX9_readOrder_102 mv_X9_228 ob_67 (s_X9_must g) (Nat.le_of_ble_eq_true rfl) ?_
  refine pw_aload_n eX9_readOrder_105 rfl ?_
  refine pw_getR (r := 82) eX9_readOrder_106 fl_X9_53 ob_67 rfl ?_
  refine pw_aload_n eX9_readOrder_109 rfl ?_
  refine pw_getI eX9_readOrder_110 fl_X9_238 ob_67 rfl ?_
  refine pw_iload_n eX9_readOrder_113 rfl ?_
  obtain ⟨σ5, g, h⟩ := hs_bind h
  refine pw_iast' eX9_readOrder_114 ai_82 g ?_
  refine pw_aload_n eX9_readOrder_115 rfl ?_
  refine pw_dup eX9_readOrder_116 rfl ?_
  refine pw_getI eX9_readOrder_117 fl_X9_219 ob_67 rfl ?_
  refine pw_iconst eX9_readOrder_120 ki_1 ?_
  refine pw_iadd eX9_readOrder_121 ?_
  refine pw_putI eX9_readOrder_122 fw_X9_219 ob_67 rfl ?_
  refine pw_aload_n eX9_readOrder_125 rfl ?_
  refine pw_dup eX9_readOrder_126 rfl ?_
  refine pw_getI eX9_readOrder_127 fl_X9_238 ob_67 rfl ?_
  refine pw_iconst eX9_readOrder_130 ki_1 ?_
  refine pw_iadd eX9_readOrder_131 ?_
  refine pw_putI eX9_readOrder_132 fw_X9_238 ob_67 rfl ?_
  exact pw_vret' eX9_readOrder_135 h
def f_X9_readOrder_89 (x1 : Int32) (t0 : Int32) (σ : HS) : Option (HS) :=
  if t0 = 59 then
    f_X9_readOrder_102 x1 1 σ
  else
    f_X9_readOrder_102 x1 0 σ
set_option maxRecDepth 20000 in
theorem w_X9_readOrder_89 {d : Nat} {p : HS} : ∀ (x1 : Int32) (t0 : Int32) (σ : HS), f_X9_readOrder_89 x1 t0 σ = some p → PW RX9 cX9_readOrder 4 (hs_zM (d + 4) none (none, p)) 89 [some (.ref 67), some (.int x1), none, none] [.int t0] σ := by
  intro x1 t0 σ h
  rw [f_X9_readOrder_89] at h
  refine pw_istore_n eX9_readOrder_89 rfl (by decide) rfl rfl ?_
  refine pw_aload_n eX9_readOrder_90 rfl ?_
  refine pw_iload_n eX9_readOrder_91 rfl ?_
  refine pw_bipush eX9_readOrder_92 kb_59 ?_
  refine pw_icmp_ne (tgt := 101) eX9_readOrder_94 (by decide) (fun c => ?_) (fun c => ?_)
  · have h := hs_ie c h
    refine pw_iconst eX9_readOrder_101 ki_0 ?_
    exact pw_le (w_X9_readOrder_102 x1 0 σ h) ⟨rfl, rfl, trivial⟩
  · have h := hs_it c h
    refine pw_iconst eX9_readOrder_97 ki_1 ?_
    refine pw_goto (pc' := 102) eX9_readOrder_98 (by decide) ?_
    exact pw_le (w_X9_readOrder_102 x1 1 σ h) ⟨rfl, rfl, trivial⟩
def f_X9_readOrder_72 (x1 : Int32) (σ : HS) : Option (HS) :=
  if (σ.1 67 20) = (-1) then
    (f_X9_here σ).bind fun q6 =>
    f_X9_readOrder_89 x1 q6.1 q6.2
  else
    f_X9_readOrder_89 x1 59 σ
set_option maxRecDepth 20000 in
theorem w_X9_readOrder_72 {d : Nat} {p : HS} : ∀ (x1 : Int32) (σ : HS), f_X9_readOrder_72 x1 σ = some p → PW RX9 cX9_readOrder 4 (hs_zM (d + 4) none (none, p)) 72 [some (.ref 67), some (.int x1), none, none] [] σ := by
  intro x1 σ h
  rw [f_X9_readOrder_72] at h
  refine pw_aload_n eX9_readOrder_72 rfl ?_
  refine pw_getI eX9_readOrder_73 fl_X9_222 ob_67 rfl ?_
  refine pw_iconst eX9_readOrder_76 ki_m1 ?_
  refine pw_icmp_ne (tgt := 87) eX9_readOrder_77 (by decide) (fun c => ?_) (fun c => ?_)
  · have h := hs_ie c h
    refine pw_bipush eX9_readOrder_87 kb_59 ?_
    exact w_X9_readOrder_89 x1 59 σ h
  · have h := hs_it c h
    refine pw_aload_n eX9_readOrder_80 rfl ?_
    obtain ⟨q6, g, h⟩ := hs_bind h
    refine pw_mV0i eX9_readOrder_81 mv_X9_225 ob_67 (s_X9_here g) (Nat.le_of_ble_eq_true rfl) ?_
    refine pw_goto (pc' := 89) eX9_readOrder_84 (by decide) ?_
    exact w_X9_readOrder_89 x1 q6.1 q6.2 h
def f_X9_readOrder_36 : Nat → Int32 → Int32 → Int32 → HS → Option (HS)
  | 0, _, _, _, _ => none
  | n + 1, x1, x2, x3, σ =>
    if x2 ≤ x3 then
      f_X9_readOrder_72 x1 σ
    else
      if (σ.1 67 20) = (-1) then
        (f_X9_figures σ).bind fun q7 =>
        (stI q7.2 83 200 (((4 : Int32) * (σ.1 67 21)) + x3) q7.1).bind fun σ8 =>
        f_X9_readOrder_36 n x1 x2 (x3 + 1) σ8
      else
        f_X9_readOrder_72 x1 σ
set_option maxRecDepth 20000 in
theorem w_X9_readOrder_36 {d : Nat} {p : HS} : ∀ (n : Nat) (x1 : Int32) (x2 : Int32) (x3 : Int32) (σ : HS), f_X9_readOrder_36 n x1 x2 x3 σ = some p → PW RX9 cX9_readOrder 4 (hs_zM (d + 4) none (none, p)) 36 [some (.ref 67), some (.int x1), some (.int x2), some (.int x3)] [] σ := by
  intro n
  induction n with
  | zero =>
    intro x1 x2 x3 σ h
    rw [f_X9_readOrder_36] at h
    cases h
  | succ n ih =>
    intro x1 x2 x3 σ h
    rw [f_X9_readOrder_36] at h
    refine pw_iload_n eX9_readOrder_36 rfl ?_
    refine pw_iload_n eX9_readOrder_37 rfl ?_
    refine pw_icmp_ge (tgt := 72) eX9_readOrder_38 (by decide) (fun c => ?_) (fun c => ?_)
    · have h := hs_it c h
      exact pw_le (w_X9_readOrder_72 x1 σ h) ⟨rfl, rfl, trivial⟩
    · have h := hs_ie c h
      refine pw_aload_n eX9_readOrder_41 rfl ?_
      refine pw_getI eX9_readOrder_42 fl_X9_222 ob_67 rfl ?_
      refine pw_iconst eX9_readOrder_45 ki_m1 ?_
      refine pw_icmp_ne (tgt := 72) eX9_readOrder_46 (by decide) (fun c => ?_) (fun c => ?_)
      · have h := hs_ie c h
        exact pw_le (w_X9_readOrder_72 x1 σ h) ⟨rfl, rfl, trivial⟩
      · have h := hs_it c h
        refine pw_aload_n eX9_readOrder_49 rfl ?_
        refine pw_getR (r := 83) eX9_readOrder_50 fl_X9_56 ob_67 rfl ?_
        refine pw_iconst eX9_readOrder_53 ki_4 ?_
        refine pw_aload_n eX9_readOrder_54 rfl ?_
        refine pw_getI eX9_readOrder_55 fl_X9_238 ob_67 rfl ?_
        refine pw_imul eX9_readOrder_58 ?_
        refine pw_iload_n eX9_readOrder_59 rfl ?_
        refine pw_iadd eX9_readOrder_60 ?_
        refine pw_aload_n eX9_readOrder_61 rfl ?_
        obtain ⟨q7, g, h⟩ := hs_bind h
        refine pw_mV0i eX9_readOrder_62 mv_X9_241 ob_67 (s_X9_figures g) (Nat.le_of_ble_eq_true rfl) ?_
        obtain ⟨σ8, g, h⟩ := hs_bind h
        refine pw_iast' eX9_readOrder_65 ai_83 g ?_
        refine pw_iinc eX9_readOrder_66 (by decide) rfl ki_1 rfl rfl ?_
        refine pw_goto (pc' := 36) eX9_readOrder_69 (by decide) ?_
        exact ih x1 x2 (x3 + 1) σ8 h
def f_X9_readOrder_21 (x1 : Int32) (x2 : Int32) (t0 : Int32) (σ : HS) : Option (HS) :=
  (f_X9_must t0 σ).bind fun σ3 =>
  f_X9_readOrder_36 FU x1 x2 0 (sI σ3 67 19 ((σ3.1 67 19) + 1))
set_option maxRecDepth 20000 in
theorem w_X9_readOrder_21 {d : Nat} {p : HS} : ∀ (x1 : Int32) (x2 : Int32) (t0 : Int32) (σ : HS), f_X9_readOrder_21 x1 x2 t0 σ = some p → PW RX9 cX9_readOrder 4 (hs_zM (d + 4) none (none, p)) 21 [some (.ref 67), some (.int x1), some (.int x2), none] [.int t0, .ref 67] σ := by
  intro x1 x2 t0 σ h
  rw [f_X9_readOrder_21] at h
  obtain ⟨σ3, g, h⟩ := hs_bind h
  refine pw_mV1v eX9_readOrder_21 mv_X9_228 ob_67 (s_X9_must g) (Nat.le_of_ble_eq_true rfl) ?_
  refine pw_aload_n eX9_readOrder_24 rfl ?_
  refine pw_dup eX9_readOrder_25 rfl ?_
  refine pw_getI eX9_readOrder_26 fl_X9_219 ob_67 rfl ?_
  refine pw_iconst eX9_readOrder_29 ki_1 ?_
  refine pw_iadd eX9_readOrder_30 ?_
  refine pw_putI eX9_readOrder_31 fw_X9_219 ob_67 rfl ?_
  refine pw_iconst eX9_readOrder_34 ki_0 ?_
  refine pw_istore_n eX9_readOrder_35 rfl (by decide) rfl rfl ?_
  exact w_X9_readOrder_36 FU x1 x2 0 (sI σ3 67 19 ((σ3.1 67 19) + 1)) h
def f_X9_readOrder (σ : HS) : Option (HS) :=
  (f_X9_here σ).bind fun q1 =>
  (f_X9_numbersOf q1.1 q1.2).bind fun q2 =>
  if q2.1 = (-1) then
    f_X9_readOrder_21 q1.1 q2.1 0 q2.2
  else
    f_X9_readOrder_21 q1.1 q2.1 1 q2.2
set_option maxRecDepth 20000 in
theorem s_X9_readOrder {d : Nat} {σ : HS} {p : HS} (h : f_X9_readOrder σ = some p) : hs_Spec (d + 4) yX9_readOrder cX9_readOrder 4 none [.ref 67] σ (none, p) := by
  refine hs_spec' (by decide +kernel) rfl (Nat.le_of_ble_eq_true rfl) ?_
  show PW RX9 cX9_readOrder 4 (hs_zM (d + 4) none (none, p)) 0 [some (.ref 67), none, none, none] [] σ
  rw [f_X9_readOrder] at h
  refine pw_aload_n eX9_readOrder_0 rfl ?_
  obtain ⟨q1, g, h⟩ := hs_bind h
  refine pw_mV0i eX9_readOrder_1 mv_X9_225 ob_67 (s_X9_here g) (Nat.le_of_ble_eq_true rfl) ?_
  refine pw_istore_n eX9_readOrder_4 rfl (by decide) rfl rfl ?_
  refine pw_iload_n eX9_readOrder_5 rfl ?_
  obtain ⟨q2, g, h⟩ := hs_bind h
  refine pw_mS1i eX9_readOrder_6 ms_X9_235 (s_X9_numbersOf g) (Nat.le_of_ble_eq_true rfl) ?_
  refine pw_istore_n eX9_readOrder_9 rfl (by decide) rfl rfl ?_
  refine pw_aload_n eX9_readOrder_10 rfl ?_
  refine pw_iload_n eX9_readOrder_11 rfl ?_
  refine pw_iconst eX9_readOrder_12 ki_m1 ?_
  refine pw_icmp_eq (tgt := 20) eX9_readOrder_13 (by decide) (fun c => ?_) (fun c => ?_)
  · have h := hs_it c h
    refine pw_iconst eX9_readOrder_20 ki_0 ?_
    exact w_X9_readOrder_21 q1.1 q2.1 0 q2.2 h
  · have h := hs_ie c h
    refine pw_iconst eX9_readOrder_16 ki_1 ?_
    refine pw_goto (pc' := 21) eX9_readOrder_17 (by decide) ?_
    exact w_X9_readOrder_21 q1.1 q2.1 1 q2.2 h

def f_X9_doOrder (x1 : Int32) (σ : HS) : Option (Int32 × HS) :=
  (ldI (σ.1 83) 200 ((4 : Int32) * x1)).bind fun v1 =>
  (ldI (σ.1 83) 200 (((4 : Int32) * x1) + 1)).bind fun v2 =>
  (ldI (σ.1 82) 50 x1).bind fun v3 =>
  if v3 = 97 then
    (f_X9_doNeeds v1 v2 2 σ).bind fun q4 =>
    some (q4.1, q4.2)
  else if v3 = 105 then
    (f_X9_doInstruction v1 σ).bind fun q5 =>
    some (q5.1, q5.2)
  else if v3 = 107 then
    (ldI (σ.1 83) 200 (((4 : Int32) * x1) + 2)).bind fun v6 =>
    (ldI (σ.1 83) 200 (((4 : Int32) * x1) + 3)).bind fun v7 =>
    (f_X9_doKind v1 v2 v6 v7 σ).bind fun q8 =>
    some (q8.1, q8.2)
  else if v3 = 110 then
    (f_X9_doNeeds v1 v2 1 σ).bind fun q9 =>
    some (q9.1, q9.2)
  else if v3 = 114 then
    (f_X9_doSets 1 v1 σ).bind fun q10 =>
    some (q10.1, q10.2)
  else if v3 = 119 then
    (f_X9_doSets 0 v1 σ).bind fun q11 =>
    some (q11.1, q11.2)
  else 
    (f_X9_doDrops v1 σ).bind fun q12 =>
  some (q12.1, q12.2)
set_option maxRecDepth 20000 in
theorem s_X9_doOrder {d : Nat} {x1 : Int32} {σ : HS} {p : Int32 × HS} (h : f_X9_doOrder x1 σ = some p) : hs_Spec (d + 4) yX9_doOrder cX9_doOrder 4 (some .int) [.ref 67, .int x1] σ (some (.int p.1), p.2) := by
  refine hs_spec' (by decide +kernel) rfl (Nat.le_of_ble_eq_true rfl) ?_
  show PW RX9 cX9_doOrder 4 (hs_zM (d + 4) (some .int) (some (.int p.1), p.2)) 0 [some (.ref 67), some (.int x1), none, none] [] σ
  rw [f_X9_doOrder] at h
  refine pw_aload_n eX9_doOrder_0 rfl ?_
  refine pw_getR (r := 83) eX9_doOrder_1 fl_X9_56 ob_67 rfl ?_
  refine pw_iconst eX9_doOrder_4 ki_4 ?_
  refine pw_iload_n eX9_doOrder_5 rfl ?_
  refine pw_imul eX9_doOrder_6 ?_
  obtain ⟨v1, g, h⟩ := hs_bind h
  refine pw_iald' eX9_doOrder_7 ai_83 g ?_
  refine pw_istore_n eX9_doOrder_8 rfl (by decide) rfl rfl ?_
  refine pw_aload_n eX9_doOrder_9 rfl ?_
  refine pw_getR (r := 83) eX9_doOrder_10 fl_X9_56 ob_67 rfl ?_
  refine pw_iconst eX9_doOrder_13 ki_4 ?_
  refine pw_iload_n eX9_doOrder_14 rfl ?_
  refine pw_imul eX9_doOrder_15 ?_
  refine pw_iconst eX9_doOrder_16 ki_1 ?_
  refine pw_iadd eX9_doOrder_17 ?_
  obtain ⟨v2, g, h⟩ := hs_bind h
  refine pw_iald' eX9_doOrder_18 ai_83 g ?_
  refine pw_istore_n eX9_doOrder_19 rfl (by decide) rfl rfl ?_
  refine pw_aload_n eX9_doOrder_20 rfl ?_
  refine pw_getR (r := 82) eX9_doOrder_21 fl_X9_53 ob_67 rfl ?_
  refine pw_iload_n eX9_doOrder_24 rfl ?_
  obtain ⟨v3, g, h⟩ := hs_bind h
  refine pw_iald' eX9_doOrder_25 ai_82 g ?_
  by_cases c0 : v3 = 97
  · have h := hs_it c0 h
    refine pw_look (pc' := 125) (off := 99) eX9_doOrder_26 (by decide) (by rw [c0]; decide) (by decide) ?_
    refine pw_aload_n eX9_doOrder_125 rfl ?_
    refine pw_iload_n eX9_doOrder_126 rfl ?_
    refine pw_iload_n eX9_doOrder_127 rfl ?_
    refine pw_iconst eX9_doOrder_128 ki_2 ?_
    obtain ⟨q4, g, h⟩ := hs_bind h
    refine pw_mV3i eX9_doOrder_129 mv_X9_118 ob_67 (s_X9_doNeeds g) (Nat.le_of_ble_eq_true rfl) ?_
    exact pw_iret' eX9_doOrder_132 h
  have h := hs_ie c0 h
  by_cases c1 : v3 = 105
  · have h := hs_it c1 h
    refine pw_look (pc' := 111) (off := 85) eX9_doOrder_26 (by decide) (by rw [c1]; decide) (by decide) ?_
    refine pw_aload_n eX9_doOrder_111 rfl ?_
    refine pw_iload_n eX9_doOrder_112 rfl ?_
    obtain ⟨q5, g, h⟩ := hs_bind h
    refine pw_mV1i eX9_doOrder_113 mv_X9_115 ob_67 (s_X9_doInstruction g) (Nat.le_of_ble_eq_true rfl) ?_
    exact pw_iret' eX9_doOrder_116 h
  have h := hs_ie c1 h
  by_cases c2 : v3 = 107
  · have h := hs_it c2 h
    refine pw_look (pc' := 84) (off := 58) eX9_doOrder_26 (by decide) (by rw [c2]; decide) (by decide) ?_
    refine pw_aload_n eX9_doOrder_84 rfl ?_
    refine pw_iload_n eX9_doOrder_85 rfl ?_
    refine pw_iload_n eX9_doOrder_86 rfl ?_
    refine pw_aload_n eX9_doOrder_87 rfl ?_
    refine pw_getR (r := 83) eX9_doOrder_88 fl_X9_56 ob_67 rfl ?_
    refine pw_iconst eX9_doOrder_91 ki_4 ?_
    refine pw_iload_n eX9_doOrder_92 rfl ?_
    refine pw_imul eX9_doOrder_93 ?_
    refine pw_iconst eX9_doOrder_94 ki_2 ?_
    refine pw_iadd eX9_doOrder_95 ?_
    obtain ⟨v6, g, h⟩ := hs_bind h
    refine pw_iald' eX9_doOrder_96 ai_83 g ?_
    refine pw_aload_n eX9_doOrder_97 rfl ?_
    refine pw_getR (r := 83) eX9_doOrder_98 fl_X9_56 ob_67 rfl ?_
    refine pw_iconst eX9_doOrder_101 ki_4 ?_
    refine pw_iload_n eX9_doOrder_102 rfl ?_
    refine pw_imul eX9_doOrder_103 ?_
    refine pw_iconst eX9_doOrder_104 ki_3 ?_
    refine pw_iadd eX9_doOrder_105 ?_
    obtain ⟨v7, g, h⟩ := hs_bind h
    refine pw_iald' eX9_doOrder_106 ai_83 g ?_
    obtain ⟨q8, g, h⟩ := hs_bind h
    refine pw_mV4i eX9_doOrder_107 mv_X9_105 ob_67 (s_X9_doKind g) (Nat.le_of_ble_eq_true rfl) ?_
    exact pw_iret' eX9_doOrder_110 h
  have h := hs_ie c2 h
  by_cases c3 : v3 = 110
  · have h := hs_it c3 h
    refine pw_look (pc' := 117) (off := 91) eX9_doOrder_26 (by decide) (by rw [c3]; decide) (by decide) ?_
    refine pw_aload_n eX9_doOrder_117 rfl ?_
    refine pw_iload_n eX9_doOrder_118 rfl ?_
    refine pw_iload_n eX9_doOrder_119 rfl ?_
    refine pw_iconst eX9_doOrder_120 ki_1 ?_
    obtain ⟨q9, g, h⟩ := hs_bind h
    refine pw_mV3i eX9_doOrder_121 mv_X9_118 ob_67 (s_X9_doNeeds g) (Nat.le_of_ble_eq_true rfl) ?_
    exact pw_iret' eX9_doOrder_124 h
  have h := hs_ie c3 h
  by_cases c4 : v3 = 114
  · have h := hs_it c4 h
    refine pw_look (pc' := 140) (off := 114) eX9_doOrder_26 (by decide) (by rw [c4]; decide) (by decide) ?_
    refine pw_aload_n eX9_doOrder_140 rfl ?_
    refine pw_iconst eX9_doOrder_141 ki_1 ?_
    refine pw_iload_n eX9_doOrder_142 rfl ?_
    obtain ⟨q10, g, h⟩ := hs_bind h
    refine pw_mV2i eX9_doOrder_143 mv_X9_112 ob_67 (s_X9_doSets g) (Nat.le_of_ble_eq_true rfl) ?_
    exact pw_iret' eX9_doOrder_146 h
  have h := hs_ie c4 h
  by_cases c5 : v3 = 119
  · have h := hs_it c5 h
    refine pw_look (pc' := 133) (off := 107) eX9_doOrder_26 (by decide) (by rw [c5]; decide) (by decide) ?_
    refine pw_aload_n eX9_doOrder_133 rfl ?_
    refine pw_iconst eX9_doOrder_134 ki_0 ?_
    refine pw_iload_n eX9_doOrder_135 rfl ?_
    obtain ⟨q11, g, h⟩ := hs_bind h
    refine pw_mV2i eX9_doOrder_136 mv_X9_112 ob_67 (s_X9_doSets g) (Nat.le_of_ble_eq_true rfl) ?_
    exact pw_iret' eX9_doOrder_139 h
  have h := hs_ie c5 h
  have d0 := hs_nl (z := 97) c0 (by decide); have d1 := hs_nl (z := 105) c1 (by decide); have d2 := hs_nl (z := 107) c2 (by decide); have d3 := hs_nl (z := 110) c3 (by decide); have d4 := hs_nl (z := 114) c4 (by decide); have d5 := hs_nl (z := 119) c5 (by decide); skip
  refine pw_look (pc' := 147) (off := 121) eX9_doOrder_26 (by decide) (by simp [Op.lookupswitch.offset, Ne.symm d0, d0, Ne.symm d1, d1, Ne.symm d2, d2, Ne.symm d3, d3, Ne.symm d4, d4, Ne.symm d5, d5]) (by decide) ?_
  refine pw_aload_n eX9_doOrder_147 rfl ?_
  refine pw_iload_n eX9_doOrder_148 rfl ?_
  obtain ⟨q12, g, h⟩ := hs_bind h
  refine pw_mV1i eX9_doOrder_149 mv_X9_122 ob_67 (s_X9_doDrops g) (Nat.le_of_ble_eq_true rfl) ?_
  exact pw_iret' eX9_doOrder_152 h

def f_X9_reads_95 : Nat → Int32 → Int32 → HS → Option (Int32 × HS)
  | 0, _, _, _ => none
  | n + 1, x1, x2, σ =>
    if (66 : Int32) ≤ x2 then
      some (((-1000 : Int32) - x1), (sI σ 67 5 0))
    else
      (ldI (σ.1 69) 66 x2).bind fun v6 =>
      (stI σ 68 66 x2 v6).bind fun σ7 =>
      f_X9_reads_95 n x1 (x2 + 1) σ7
set_option maxRecDepth 20000 in
theorem w_X9_reads_95 {d : Nat} {p : Int32 × HS} : ∀ (n : Nat) (x1 : Int32) (x2 : Int32) (σ : HS), f_X9_reads_95 n x1 x2 σ = some p → PW RX9 cX9_reads 3 (hs_zM (d + 5) (some .int) (some (.int p.1), p.2)) 95 [some (.ref 67), some (.int x1), some (.int x2)] [] σ := by
  intro n
  induction n with
  | zero =>
    intro x1 x2 σ h
    rw [f_X9_reads_95] at h
    cases h
  | succ n ih =>
    intro x1 x2 σ h
    rw [f_X9_reads_95] at h
    refine pw_iload_n eX9_reads_95 rfl ?_
    refine pw_bipush eX9_reads_96 kb_66 ?_
    refine pw_icmp_ge (tgt := 119) eX9_reads_98 (by decide) (fun c => ?_) (fun c => ?_)
    · have h := hs_it c h
      refine pw_aload_n eX9_reads_119 rfl ?_
      refine pw_iconst eX9_reads_120 ki_0 ?_
      refine pw_putZ eX9_reads_121 fw_X9_70 ob_67 rfl narrow_b0 rfl ?_
      refine pw_sipush eX9_reads_124 ks_m1000 ?_
      refine pw_iload_n eX9_reads_127 rfl ?_
      refine pw_isub eX9_reads_128 ?_
      exact pw_iret' eX9_reads_129 h
    · have h := hs_ie c h
      refine pw_aload_n eX9_reads_101 rfl ?_
      refine pw_getR (r := 68) eX9_reads_102 fl_X9_7 ob_67 rfl ?_
      refine pw_iload_n eX9_reads_105 rfl ?_
      refine pw_aload_n eX9_reads_106 rfl ?_
      refine pw_getR (r := 69) eX9_reads_107 fl_X9_13 ob_67 rfl ?_
      refine pw_iload_n eX9_reads_110 rfl ?_
      obtain ⟨v6, g, h⟩ := hs_bind h
      refine pw_iald' eX9_reads_111 ai_69 g ?_
      obtain ⟨σ7, g, h⟩ := hs_bind h
      refine pw_iast' eX9_reads_112 ai_68 g ?_
      refine pw_iinc eX9_reads_113 (by decide) rfl ki_1 rfl rfl ?_
      refine pw_goto (pc' := 95) eX9_reads_116 (by decide) ?_
      exact ih x1 (x2 + 1) σ7 h
def f_X9_reads_77 : Nat → Int32 → HS → Option (Int32 × HS)
  | 0, _, _ => none
  | n + 1, x1, σ =>
    if (σ.1 67 21) ≤ x1 then
      (f_X9_push σ).bind fun σ4 =>
      some ((σ4.1 67 21), σ4)
    else
      (f_X9_doOrder x1 σ).bind fun q5 =>
      if (0 : Int32) ≤ q5.1 then
        f_X9_reads_77 n (x1 + 1) q5.2
      else
        f_X9_reads_95 FU x1 0 q5.2
set_option maxRecDepth 20000 in
theorem w_X9_reads_77 {d : Nat} {p : Int32 × HS} : ∀ (n : Nat) (x1 : Int32) (σ : HS), f_X9_reads_77 n x1 σ = some p → PW RX9 cX9_reads 3 (hs_zM (d + 5) (some .int) (some (.int p.1), p.2)) 77 [some (.ref 67), some (.int x1), none] [] σ := by
  intro n
  induction n with
  | zero =>
    intro x1 σ h
    rw [f_X9_reads_77] at h
    cases h
  | succ n ih =>
    intro x1 σ h
    rw [f_X9_reads_77] at h
    refine pw_iload_n eX9_reads_77 rfl ?_
    refine pw_aload_n eX9_reads_78 rfl ?_
    refine pw_getI eX9_reads_79 fl_X9_238 ob_67 rfl ?_
    refine pw_icmp_ge (tgt := 136) eX9_reads_82 (by decide) (fun c => ?_) (fun c => ?_)
    · have h := hs_it c h
      refine pw_aload_n eX9_reads_136 rfl ?_
      obtain ⟨σ4, g, h⟩ := hs_bind h
      refine pw_mV0v eX9_reads_137 mv_X9_67 ob_67 (s_X9_push g) (Nat.le_of_ble_eq_true rfl) ?_
      refine pw_aload_n eX9_reads_140 rfl ?_
      refine pw_getI eX9_reads_141 fl_X9_238 ob_67 rfl ?_
      exact pw_iret' eX9_reads_144 h
    · have h := hs_ie c h
      refine pw_aload_n eX9_reads_85 rfl ?_
      refine pw_iload_n eX9_reads_86 rfl ?_
      obtain ⟨q5, g, h⟩ := hs_bind h
      refine pw_mV1i eX9_reads_87 mv_X9_247 ob_67 (s_X9_doOrder g) (Nat.le_of_ble_eq_true rfl) ?_
      refine pw_if_ge (tgt := 130) eX9_reads_90 (by decide) (fun c => ?_) (fun c => ?_)
      · have h := hs_it c h
        refine pw_iinc eX9_reads_130 (by decide) rfl ki_1 rfl rfl ?_
        refine pw_goto (pc' := 77) eX9_reads_133 (by decide) ?_
        exact ih (x1 + 1) q5.2 h
      · have h := hs_ie c h
        refine pw_iconst eX9_reads_93 ki_0 ?_
        refine pw_istore_n eX9_reads_94 rfl (by decide) rfl rfl ?_
        exact w_X9_reads_95 FU x1 0 q5.2 h
def f_X9_reads_55 (σ : HS) : Option (Int32 × HS) :=
  if (σ.1 67 20) = (-1) then
    (f_X9_hold σ).bind fun σ3 =>
    f_X9_reads_77 FU 0 σ3
  else
    some (((-10 : Int32) - (σ.1 67 20)), σ)
set_option maxRecDepth 20000 in
theorem w_X9_reads_55 {d : Nat} {p : Int32 × HS} : ∀ (σ : HS), f_X9_reads_55 σ = some p → PW RX9 cX9_reads 3 (hs_zM (d + 5) (some .int) (some (.int p.1), p.2)) 55 [some (.ref 67), none, none] [] σ := by
  intro σ h
  rw [f_X9_reads_55] at h
  refine pw_aload_n eX9_reads_55 rfl ?_
  refine pw_getI eX9_reads_56 fl_X9_222 ob_67 rfl ?_
  refine pw_iconst eX9_reads_59 ki_m1 ?_
  refine pw_icmp_eq (tgt := 71) eX9_reads_60 (by decide) (fun c => ?_) (fun c => ?_)
  · have h := hs_it c h
    refine pw_aload_n eX9_reads_71 rfl ?_
    obtain ⟨σ3, g, h⟩ := hs_bind h
    refine pw_mV0v eX9_reads_72 mv_X9_102 ob_67 (s_X9_hold g) (Nat.le_of_ble_eq_true rfl) ?_
    refine pw_iconst eX9_reads_75 ki_0 ?_
    refine pw_istore_n eX9_reads_76 rfl (by decide) rfl rfl ?_
    exact w_X9_reads_77 FU 0 σ3 h
  · have h := hs_ie c h
    refine pw_bipush eX9_reads_63 kb_m10 ?_
    refine pw_aload_n eX9_reads_65 rfl ?_
    refine pw_getI eX9_reads_66 fl_X9_222 ob_67 rfl ?_
    refine pw_isub eX9_reads_69 ?_
    exact pw_iret' eX9_reads_70 h
def f_X9_reads_32 : Nat → HS → Option (Int32 × HS)
  | 0, _ => none
  | n + 1, σ =>
    if (σ.1 67 20) = (-1) then
      (f_X9_here σ).bind fun q8 =>
      if q8.1 = (-1) then
        f_X9_reads_55 q8.2
      else
        (f_X9_readOrder q8.2).bind fun σ9 =>
        f_X9_reads_32 n σ9
    else
      f_X9_reads_55 σ
set_option maxRecDepth 20000 in
theorem w_X9_reads_32 {d : Nat} {p : Int32 × HS} : ∀ (n : Nat) (σ : HS), f_X9_reads_32 n σ = some p → PW RX9 cX9_reads 3 (hs_zM (d + 5) (some .int) (some (.int p.1), p.2)) 32 [some (.ref 67), none, none] [] σ := by
  intro n
  induction n with
  | zero =>
    intro σ h
    rw [f_X9_reads_32] at h
    cases h
  | succ n ih =>
    intro σ h
    rw [f_X9_reads_32] at h
    refine pw_aload_n eX9_reads_32 rfl ?_
    refine pw_getI eX9_reads_33 fl_X9_222 ob_67 rfl ?_
    refine pw_iconst eX9_reads_36 ki_m1 ?_
    refine pw_icmp_ne (tgt := 55) eX9_reads_37 (by decide) (fun c => ?_) (fun c => ?_)
    · have h := hs_ie c h
      exact w_X9_reads_55 σ h
    · have h := hs_it c h
      refine pw_aload_n eX9_reads_40 rfl ?_
      obtain ⟨q8, g, h⟩ := hs_bind h
      refine pw_mV0i eX9_reads_41 mv_X9_225 ob_67 (s_X9_here g) (Nat.le_of_ble_eq_true rfl) ?_
      refine pw_iconst eX9_reads_44 ki_m1 ?_
      refine pw_icmp_eq (tgt := 55) eX9_reads_45 (by decide) (fun c => ?_) (fun c => ?_)
      · have h := hs_it c h
        exact w_X9_reads_55 q8.2 h
      · have h := hs_ie c h
        refine pw_aload_n eX9_reads_48 rfl ?_
        obtain ⟨σ9, g, h⟩ := hs_bind h
        refine pw_mV0v eX9_reads_49 mv_X9_244 ob_67 (s_X9_readOrder g) (Nat.le_of_ble_eq_true rfl) ?_
        refine pw_goto (pc' := 32) eX9_reads_52 (by decide) ?_
        exact ih σ9 h
def f_X9_reads (σ : HS) : Option (Int32 × HS) :=
  (f_X9_here (sI (sI (sI σ 67 19 0) 67 20 (-1)) 67 21 0)).bind fun q1 =>
  if q1.1 = (-1) then
    (f_X9_must 0 q1.2).bind fun σ2 =>
    f_X9_reads_32 FU σ2
  else
    (f_X9_must 1 q1.2).bind fun σ10 =>
    f_X9_reads_32 FU σ10
set_option maxRecDepth 20000 in
theorem s_X9_reads {d : Nat} {σ : HS} {p : Int32 × HS} (h : f_X9_reads σ = some p) : hs_Spec (d + 5) yX9_reads cX9_reads 3 (some .int) [.ref 67] σ (some (.int p.1), p.2) := by
  refine hs_spec' (by decide +kernel) rfl (Nat.le_of_ble_eq_true rfl) ?_
  show PW RX9 cX9_reads 3 (hs_zM (d + 5) (some .int) (some (.int p.1), p.2)) 0 [some (.ref 67), none, none] [] σ
  rw [f_X9_reads] at h
  refine pw_aload_n eX9_reads_0 rfl ?_
  refine pw_iconst eX9_reads_1 ki_0 ?_
  refine pw_putI eX9_reads_2 fw_X9_219 ob_67 rfl ?_
  refine pw_aload_n eX9_reads_5 rfl ?_
  refine pw_iconst eX9_reads_6 ki_m1 ?_
  refine pw_putI eX9_reads_7 fw_X9_222 ob_67 rfl ?_
  refine pw_aload_n eX9_reads_10 rfl ?_
  refine pw_iconst eX9_reads_11 ki_0 ?_
  refine pw_putI eX9_reads_12 fw_X9_238 ob_67 rfl ?_
  refine pw_aload_n eX9_reads_15 rfl ?_
  refine pw_aload_n eX9_reads_16 rfl ?_
  obtain ⟨q1, g, h⟩ := hs_bind h
  refine pw_mV0i eX9_reads_17 mv_X9_225 ob_67 (s_X9_here g) (Nat.le_of_ble_eq_true rfl) ?_
  refine pw_iconst eX9_reads_20 ki_m1 ?_
  refine pw_icmp_eq (tgt := 28) eX9_reads_21 (by decide) (fun c => ?_) (fun c => ?_)
  · have h := hs_it c h
    refine pw_iconst eX9_reads_28 ki_0 ?_
    obtain ⟨σ2, g, h⟩ := hs_bind h
    refine pw_mV1v eX9_reads_29 mv_X9_228 ob_67 (s_X9_must g) (Nat.le_of_ble_eq_true rfl) ?_
    exact w_X9_reads_32 FU σ2 h
  · have h := hs_ie c h
    refine pw_iconst eX9_reads_24 ki_1 ?_
    refine pw_goto (pc' := 29) eX9_reads_25 (by decide) ?_
    obtain ⟨σ10, g, h⟩ := hs_bind h
    refine pw_mV1v eX9_reads_29 mv_X9_228 ob_67 (s_X9_must g) (Nat.le_of_ble_eq_true rfl) ?_
    exact w_X9_reads_32 FU σ10 h

def f_X9_toldOf (x1 : Int32) (σ : HS) : Option (Int32 × HS) :=
  if x1 = 4 then
    some ((σ.1 67 18), σ)
  else if x1 = 5 then
    (ldI (σ.1 68) 66 0).bind fun v1 =>
    some (v1, σ)
  else if x1 = 6 then
    (ldI (σ.1 68) 66 23).bind fun v2 =>
    some (v2, σ)
  else if x1 = 7 then
    (ldI (σ.1 68) 66 21).bind fun v3 =>
    some (v3, σ)
  else if x1 = 8 then
    (ldI (σ.1 68) 66 22).bind fun v4 =>
    some (v4, σ)
  else if x1 = 9 then
    some ((σ.1 67 3), σ)
  else 
    (ldI (σ.1 71) 4 x1).bind fun v5 =>
  some (v5, σ)
set_option maxRecDepth 20000 in
theorem s_X9_toldOf {d : Nat} {x1 : Int32} {σ : HS} {p : Int32 × HS} (h : f_X9_toldOf x1 σ = some p) : hs_Spec (d + 1) yX9_toldOf cX9_toldOf 2 (some .int) [.ref 67, .int x1] σ (some (.int p.1), p.2) := by
  refine hs_spec' (by decide +kernel) rfl (Nat.le_of_ble_eq_true rfl) ?_
  show PW RX9 cX9_toldOf 2 (hs_zM (d + 1) (some .int) (some (.int p.1), p.2)) 0 [some (.ref 67), some (.int x1)] [] σ
  rw [f_X9_toldOf] at h
  refine pw_iload_n eX9_toldOf_0 rfl ?_
  by_cases c0 : x1 = 4
  · have h := hs_it c0 h
    refine pw_tin (pc' := 40) eX9_toldOf_1 (by rw [c0]; decide) (by rw [c0]; decide) (by rw [c0]; rfl) (by decide) ?_
    refine pw_aload_n eX9_toldOf_40 rfl ?_
    refine pw_getI eX9_toldOf_41 fl_X9_216 ob_67 rfl ?_
    exact pw_iret' eX9_toldOf_44 h
  have h := hs_ie c0 h
  by_cases c1 : x1 = 5
  · have h := hs_it c1 h
    refine pw_tin (pc' := 45) eX9_toldOf_1 (by rw [c1]; decide) (by rw [c1]; decide) (by rw [c1]; rfl) (by decide) ?_
    refine pw_aload_n eX9_toldOf_45 rfl ?_
    refine pw_getR (r := 68) eX9_toldOf_46 fl_X9_7 ob_67 rfl ?_
    refine pw_iconst eX9_toldOf_49 ki_0 ?_
    obtain ⟨v1, g, h⟩ := hs_bind h
    refine pw_iald' eX9_toldOf_50 ai_68 g ?_
    exact pw_iret' eX9_toldOf_51 h
  have h := hs_ie c1 h
  by_cases c2 : x1 = 6
  · have h := hs_it c2 h
    refine pw_tin (pc' := 52) eX9_toldOf_1 (by rw [c2]; decide) (by rw [c2]; decide) (by rw [c2]; rfl) (by decide) ?_
    refine pw_aload_n eX9_toldOf_52 rfl ?_
    refine pw_getR (r := 68) eX9_toldOf_53 fl_X9_7 ob_67 rfl ?_
    refine pw_bipush eX9_toldOf_56 kb_23 ?_
    obtain ⟨v2, g, h⟩ := hs_bind h
    refine pw_iald' eX9_toldOf_58 ai_68 g ?_
    exact pw_iret' eX9_toldOf_59 h
  have h := hs_ie c2 h
  by_cases c3 : x1 = 7
  · have h := hs_it c3 h
    refine pw_tin (pc' := 60) eX9_toldOf_1 (by rw [c3]; decide) (by rw [c3]; decide) (by rw [c3]; rfl) (by decide) ?_
    refine pw_aload_n eX9_toldOf_60 rfl ?_
    refine pw_getR (r := 68) eX9_toldOf_61 fl_X9_7 ob_67 rfl ?_
    refine pw_bipush eX9_toldOf_64 kb_21 ?_
    obtain ⟨v3, g, h⟩ := hs_bind h
    refine pw_iald' eX9_toldOf_66 ai_68 g ?_
    exact pw_iret' eX9_toldOf_67 h
  have h := hs_ie c3 h
  by_cases c4 : x1 = 8
  · have h := hs_it c4 h
    refine pw_tin (pc' := 68) eX9_toldOf_1 (by rw [c4]; decide) (by rw [c4]; decide) (by rw [c4]; rfl) (by decide) ?_
    refine pw_aload_n eX9_toldOf_68 rfl ?_
    refine pw_getR (r := 68) eX9_toldOf_69 fl_X9_7 ob_67 rfl ?_
    refine pw_bipush eX9_toldOf_72 kb_22 ?_
    obtain ⟨v4, g, h⟩ := hs_bind h
    refine pw_iald' eX9_toldOf_74 ai_68 g ?_
    exact pw_iret' eX9_toldOf_75 h
  have h := hs_ie c4 h
  by_cases c5 : x1 = 9
  · have h := hs_it c5 h
    refine pw_tin (pc' := 76) eX9_toldOf_1 (by rw [c5]; decide) (by rw [c5]; decide) (by rw [c5]; rfl) (by decide) ?_
    refine pw_aload_n eX9_toldOf_76 rfl ?_
    refine pw_getI eX9_toldOf_77 fl_X9_59 ob_67 rfl ?_
    exact pw_iret' eX9_toldOf_80 h
  have h := hs_ie c5 h
  refine hs_cut ?_ (fun pd => ?_) (P := PW RX9 cX9_toldOf 2 (hs_zM (d + 1) (some .int) (some (.int p.1), p.2)) 81 [some (.ref 67), some (.int x1)] [] σ)
  rotate_left
  · rcases hs_sw x1 4 9 with o | o | o
    · exact pw_tout eX9_toldOf_1 (Or.inl o) (by decide) pd
    · exact pw_tout eX9_toldOf_1 (Or.inr o) (by decide) pd
    · have d0 := hs_nl (z := 4) c0 (by decide); have d1 := hs_nl (z := 5) c1 (by decide); have d2 := hs_nl (z := 6) c2 (by decide); have d3 := hs_nl (z := 7) c3 (by decide); have d4 := hs_nl (z := 8) c4 (by decide); have d5 := hs_nl (z := 9) c5 (by decide); skip
      exact absurd rfl (fun _ : (0 : Nat) = 0 => by omega)
  refine pw_aload_n eX9_toldOf_81 rfl ?_
  refine pw_getR (r := 71) eX9_toldOf_82 fl_X9_19 ob_67 rfl ?_
  refine pw_iload_n eX9_toldOf_85 rfl ?_
  obtain ⟨v5, g, h⟩ := hs_bind h
  refine pw_iald' eX9_toldOf_86 ai_71 g ?_
  exact pw_iret' eX9_toldOf_87 h

def f_X9_told (x1 : Int32) (σ : HS) : Option (Int32 × HS) :=
  (f_X9_in x1 0 9 σ).bind fun q1 =>
  if q1.1 = 0 then
    (f_X9_refuses (-2) q1.2).bind fun q2 =>
    some (q2.1, q2.2)
  else
    (f_X9_toldOf x1 q1.2).bind fun q3 =>
    some (q3.1, q3.2)
set_option maxRecDepth 20000 in
theorem s_X9_told {d : Nat} {x1 : Int32} {σ : HS} {p : Int32 × HS} (h : f_X9_told x1 σ = some p) : hs_Spec (d + 2) yX9_told cX9_told 2 (some .int) [.ref 67, .int x1] σ (some (.int p.1), p.2) := by
  refine hs_spec' (by decide +kernel) rfl (Nat.le_of_ble_eq_true rfl) ?_
  show PW RX9 cX9_told 2 (hs_zM (d + 2) (some .int) (some (.int p.1), p.2)) 0 [some (.ref 67), some (.int x1)] [] σ
  rw [f_X9_told] at h
  refine pw_iload_n eX9_told_0 rfl ?_
  refine pw_iconst eX9_told_1 ki_0 ?_
  refine pw_bipush eX9_told_2 kb_9 ?_
  obtain ⟨q1, g, h⟩ := hs_bind h
  refine pw_mS3i eX9_told_4 ms_X9_74 (s_X9_in g) (Nat.le_of_ble_eq_true rfl) ?_
  refine pw_if_eq (tgt := 18) eX9_told_7 (by decide) (fun c => ?_) (fun c => ?_)
  · have h := hs_it c h
    refine pw_aload_n eX9_told_18 rfl ?_
    refine pw_bipush eX9_told_19 kb_m2 ?_
    obtain ⟨q2, g, h⟩ := hs_bind h
    refine pw_mV1i eX9_told_21 mv_X9_63 ob_67 (s_X9_refuses g) (Nat.le_of_ble_eq_true rfl) ?_
    exact pw_iret' eX9_told_24 h
  · have h := hs_ie c h
    refine pw_aload_n eX9_told_10 rfl ?_
    refine pw_iload_n eX9_told_11 rfl ?_
    obtain ⟨q3, g, h⟩ := hs_bind h
    refine pw_mV1i eX9_told_12 mv_X9_250 ob_67 (s_X9_toldOf g) (Nat.le_of_ble_eq_true rfl) ?_
    refine pw_goto (pc' := 24) eX9_told_15 (by decide) ?_
    exact pw_iret' eX9_told_24 h

def f_X9_mix (x1 : Int32) (σ : HS) : Option (HS) :=
  some (sL σ 67 24 (((31 : Int64) * (σ.2 67 24)) + x1.toInt64))
set_option maxRecDepth 20000 in
theorem s_X9_mix {d : Nat} {x1 : Int32} {σ : HS} {p : HS} (h : f_X9_mix x1 σ = some p) : hs_Spec (d + 1) yX9_mix cX9_mix 2 none [.ref 67, .int x1] σ (none, p) := by
  refine hs_spec' (by decide +kernel) rfl (Nat.le_of_ble_eq_true rfl) ?_
  show PW RX9 cX9_mix 2 (hs_zM (d + 1) none (none, p)) 0 [some (.ref 67), some (.int x1)] [] σ
  rw [f_X9_mix] at h
  refine pw_aload_n eX9_mix_0 rfl ?_
  refine pw_ldc2 eX9_mix_1 kc_X9_253 ?_
  refine pw_aload_n eX9_mix_4 rfl ?_
  refine pw_getL eX9_mix_5 fl_X9_255 ob_67 rfl ?_
  refine pw_lmul eX9_mix_8 ?_
  refine pw_iload_n eX9_mix_9 rfl ?_
  refine pw_i2l eX9_mix_10 ?_
  refine pw_ladd eX9_mix_11 ?_
  refine pw_putJ eX9_mix_12 fw_X9_255 ob_67 rfl ?_
  exact pw_vret' eX9_mix_15 h

def f_X9_digest_157 : Nat → Int32 → HS → Option (Int64 × HS)
  | 0, _, _ => none
  | n + 1, x1, σ =>
    if (3 : Int32) ≤ x1 then
      some ((σ.2 67 24), σ)
    else
      (f_X9_findRanked x1 σ).bind fun q11 =>
      (f_X9_mix q11.1 q11.2).bind fun σ12 =>
      f_X9_digest_157 n (x1 + 1) σ12
set_option maxRecDepth 20000 in
theorem w_X9_digest_157 {d : Nat} {p : Int64 × HS} : ∀ (n : Nat) (x1 : Int32) (σ : HS), f_X9_digest_157 n x1 σ = some p → PW RX9 cX9_digest 2 (hs_zM (d + 8) (some .long) (some (.long p.1), p.2)) 157 [some (.ref 67), some (.int x1)] [] σ := by
  intro n
  induction n with
  | zero =>
    intro x1 σ h
    rw [f_X9_digest_157] at h
    cases h
  | succ n ih =>
    intro x1 σ h
    rw [f_X9_digest_157] at h
    refine pw_iload_n eX9_digest_157 rfl ?_
    refine pw_iconst eX9_digest_158 ki_3 ?_
    refine pw_icmp_ge (tgt := 177) eX9_digest_159 (by decide) (fun c => ?_) (fun c => ?_)
    · have h := hs_it c h
      refine pw_aload_n eX9_digest_177 rfl ?_
      refine pw_getL eX9_digest_178 fl_X9_255 ob_67 rfl ?_
      exact pw_lret' eX9_digest_181 h
    · have h := hs_ie c h
      refine pw_aload_n eX9_digest_162 rfl ?_
      refine pw_aload_n eX9_digest_163 rfl ?_
      refine pw_iload_n eX9_digest_164 rfl ?_
      obtain ⟨q11, g, h⟩ := hs_bind h
      refine pw_mV1i eX9_digest_165 mv_X9_207 ob_67 (s_X9_findRanked g) (Nat.le_of_ble_eq_true rfl) ?_
      obtain ⟨σ12, g, h⟩ := hs_bind h
      refine pw_mV1v eX9_digest_168 mv_X9_261 ob_67 (s_X9_mix g) (Nat.le_of_ble_eq_true rfl) ?_
      refine pw_iinc eX9_digest_171 (by decide) rfl ki_1 rfl rfl ?_
      refine pw_goto (pc' := 157) eX9_digest_174 (by decide) ?_
      exact ih (x1 + 1) σ12 h
def f_X9_digest_106 : Nat → Int32 → HS → Option (Int64 × HS)
  | 0, _, _ => none
  | n + 1, x1, σ =>
    (ldI (σ.1 68) 66 23).bind fun v6 =>
    if ((5 : Int32) * v6) ≤ x1 then
      (f_X9_boundOf σ).bind fun q7 =>
      (f_X9_mix q7.1 q7.2).bind fun σ8 =>
      (f_X9_findBest σ8).bind fun q9 =>
      (f_X9_mix q9.1 q9.2).bind fun σ10 =>
      f_X9_digest_157 FU 0 σ10
    else
      (dvI x1 5).bind fun v13 =>
      (rmI x1 5).bind fun v14 =>
      (f_X9_aboutOne v13 v14 σ).bind fun q15 =>
      (f_X9_mix q15.1 q15.2).bind fun σ16 =>
      f_X9_digest_106 n (x1 + 1) σ16
set_option maxRecDepth 20000 in
theorem w_X9_digest_106 {d : Nat} {p : Int64 × HS} : ∀ (n : Nat) (x1 : Int32) (σ : HS), f_X9_digest_106 n x1 σ = some p → PW RX9 cX9_digest 2 (hs_zM (d + 8) (some .long) (some (.long p.1), p.2)) 106 [some (.ref 67), some (.int x1)] [] σ := by
  intro n
  induction n with
  | zero =>
    intro x1 σ h
    rw [f_X9_digest_106] at h
    cases h
  | succ n ih =>
    intro x1 σ h
    rw [f_X9_digest_106] at h
    refine pw_iload_n eX9_digest_106 rfl ?_
    refine pw_iconst eX9_digest_107 ki_5 ?_
    refine pw_aload_n eX9_digest_108 rfl ?_
    refine pw_getR (r := 68) eX9_digest_109 fl_X9_7 ob_67 rfl ?_
    refine pw_bipush eX9_digest_112 kb_23 ?_
    obtain ⟨v6, g, h⟩ := hs_bind h
    refine pw_iald' eX9_digest_114 ai_68 g ?_
    refine pw_imul eX9_digest_115 ?_
    refine pw_icmp_ge (tgt := 139) eX9_digest_116 (by decide) (fun c => ?_) (fun c => ?_)
    · have h := hs_it c h
      refine pw_aload_n eX9_digest_139 rfl ?_
      refine pw_aload_n eX9_digest_140 rfl ?_
      obtain ⟨q7, g, h⟩ := hs_bind h
      refine pw_mV0i eX9_digest_141 mv_X9_171 ob_67 (s_X9_boundOf g) (Nat.le_of_ble_eq_true rfl) ?_
      obtain ⟨σ8, g, h⟩ := hs_bind h
      refine pw_mV1v eX9_digest_144 mv_X9_261 ob_67 (s_X9_mix g) (Nat.le_of_ble_eq_true rfl) ?_
      refine pw_aload_n eX9_digest_147 rfl ?_
      refine pw_aload_n eX9_digest_148 rfl ?_
      obtain ⟨q9, g, h⟩ := hs_bind h
      refine pw_mV0i eX9_digest_149 mv_X9_194 ob_67 (s_X9_findBest g) (Nat.le_of_ble_eq_true rfl) ?_
      obtain ⟨σ10, g, h⟩ := hs_bind h
      refine pw_mV1v eX9_digest_152 mv_X9_261 ob_67 (s_X9_mix g) (Nat.le_of_ble_eq_true rfl) ?_
      refine pw_iconst eX9_digest_155 ki_0 ?_
      refine pw_istore_n eX9_digest_156 rfl (by decide) rfl rfl ?_
      exact w_X9_digest_157 FU 0 σ10 h
    · have h := hs_ie c h
      refine pw_aload_n eX9_digest_119 rfl ?_
      refine pw_aload_n eX9_digest_120 rfl ?_
      refine pw_iload_n eX9_digest_121 rfl ?_
      refine pw_iconst eX9_digest_122 ki_5 ?_
      obtain ⟨v13, g, h⟩ := hs_bind h
      refine pw_idiv' eX9_digest_123 g ?_
      refine pw_iload_n eX9_digest_124 rfl ?_
      refine pw_iconst eX9_digest_125 ki_5 ?_
      obtain ⟨v14, g, h⟩ := hs_bind h
      refine pw_irem' eX9_digest_126 g ?_
      obtain ⟨q15, g, h⟩ := hs_bind h
      refine pw_mV2i eX9_digest_127 mv_X9_213 ob_67 (s_X9_aboutOne g) (Nat.le_of_ble_eq_true rfl) ?_
      obtain ⟨σ16, g, h⟩ := hs_bind h
      refine pw_mV1v eX9_digest_130 mv_X9_261 ob_67 (s_X9_mix g) (Nat.le_of_ble_eq_true rfl) ?_
      refine pw_iinc eX9_digest_133 (by decide) rfl ki_1 rfl rfl ?_
      refine pw_goto (pc' := 106) eX9_digest_136 (by decide) ?_
      exact ih (x1 + 1) σ16 h
def f_X9_digest_81 (t0 : Int32) (σ : HS) : Option (Int64 × HS) :=
  (f_X9_mix t0 σ).bind fun σ3 =>
  (f_X9_isMuch σ3).bind fun q4 =>
  if q4.1 = 0 then
    (f_X9_mix (q4.2.1 67 9) q4.2).bind fun σ5 =>
    f_X9_digest_106 FU 0 σ5
  else
    (f_X9_mix (-5) q4.2).bind fun σ17 =>
    f_X9_digest_106 FU 0 σ17
set_option maxRecDepth 20000 in
theorem w_X9_digest_81 {d : Nat} {p : Int64 × HS} : ∀ (t0 : Int32) (σ : HS), f_X9_digest_81 t0 σ = some p → PW RX9 cX9_digest 2 (hs_zM (d + 8) (some .long) (some (.long p.1), p.2)) 81 [some (.ref 67), none] [.int t0, .ref 67] σ := by
  intro t0 σ h
  rw [f_X9_digest_81] at h
  obtain ⟨σ3, g, h⟩ := hs_bind h
  refine pw_mV1v eX9_digest_81 mv_X9_261 ob_67 (s_X9_mix g) (Nat.le_of_ble_eq_true rfl) ?_
  refine pw_aload_n eX9_digest_84 rfl ?_
  refine pw_aload_n eX9_digest_85 rfl ?_
  obtain ⟨q4, g, h⟩ := hs_bind h
  refine pw_mV0i eX9_digest_86 mv_X9_149 ob_67 (s_X9_isMuch g) (Nat.le_of_ble_eq_true rfl) ?_
  refine pw_if_eq (tgt := 97) eX9_digest_89 (by decide) (fun c => ?_) (fun c => ?_)
  · have h := hs_it c h
    refine pw_aload_n eX9_digest_97 rfl ?_
    refine pw_getI eX9_digest_98 fl_X9_137 ob_67 rfl ?_
    obtain ⟨σ5, g, h⟩ := hs_bind h
    refine pw_mV1v eX9_digest_101 mv_X9_261 ob_67 (s_X9_mix g) (Nat.le_of_ble_eq_true rfl) ?_
    refine pw_iconst eX9_digest_104 ki_0 ?_
    refine pw_istore_n eX9_digest_105 rfl (by decide) rfl rfl ?_
    exact w_X9_digest_106 FU 0 σ5 h
  · have h := hs_ie c h
    refine pw_bipush eX9_digest_92 kb_m5 ?_
    refine pw_goto (pc' := 101) eX9_digest_94 (by decide) ?_
    obtain ⟨σ17, g, h⟩ := hs_bind h
    refine pw_mV1v eX9_digest_101 mv_X9_261 ob_67 (s_X9_mix g) (Nat.le_of_ble_eq_true rfl) ?_
    refine pw_iconst eX9_digest_104 ki_0 ?_
    refine pw_istore_n eX9_digest_105 rfl (by decide) rfl rfl ?_
    exact w_X9_digest_106 FU 0 σ17 h
def f_X9_digest_32 : Nat → Int32 → HS → Option (Int64 × HS)
  | 0, _, _ => none
  | n + 1, x1, σ =>
    (ldI (σ.1 68) 66 0).bind fun v1 =>
    if ((5 : Int32) * v1) ≤ x1 then
      (f_X9_isMuch σ).bind fun q2 =>
      if q2.1 = 0 then
        f_X9_digest_81 (q2.2.1 67 6) q2.2
      else
        f_X9_digest_81 (-5) q2.2
    else
      (dvI x1 5).bind fun v18 =>
      (rmI x1 5).bind fun v19 =>
      (f_X9_toldOfKind v18 v19 σ).bind fun q20 =>
      (f_X9_mix q20.1 q20.2).bind fun σ21 =>
      f_X9_digest_32 n (x1 + 1) σ21
set_option maxRecDepth 20000 in
theorem w_X9_digest_32 {d : Nat} {p : Int64 × HS} : ∀ (n : Nat) (x1 : Int32) (σ : HS), f_X9_digest_32 n x1 σ = some p → PW RX9 cX9_digest 2 (hs_zM (d + 8) (some .long) (some (.long p.1), p.2)) 32 [some (.ref 67), some (.int x1)] [] σ := by
  intro n
  induction n with
  | zero =>
    intro x1 σ h
    rw [f_X9_digest_32] at h
    cases h
  | succ n ih =>
    intro x1 σ h
    rw [f_X9_digest_32] at h
    refine pw_iload_n eX9_digest_32 rfl ?_
    refine pw_iconst eX9_digest_33 ki_5 ?_
    refine pw_aload_n eX9_digest_34 rfl ?_
    refine pw_getR (r := 68) eX9_digest_35 fl_X9_7 ob_67 rfl ?_
    refine pw_iconst eX9_digest_38 ki_0 ?_
    obtain ⟨v1, g, h⟩ := hs_bind h
    refine pw_iald' eX9_digest_39 ai_68 g ?_
    refine pw_imul eX9_digest_40 ?_
    refine pw_icmp_ge (tgt := 64) eX9_digest_41 (by decide) (fun c => ?_) (fun c => ?_)
    · have h := hs_it c h
      refine pw_aload_n eX9_digest_64 rfl ?_
      refine pw_aload_n eX9_digest_65 rfl ?_
      obtain ⟨q2, g, h⟩ := hs_bind h
      refine pw_mV0i eX9_digest_66 mv_X9_149 ob_67 (s_X9_isMuch g) (Nat.le_of_ble_eq_true rfl) ?_
      refine pw_if_eq (tgt := 77) eX9_digest_69 (by decide) (fun c => ?_) (fun c => ?_)
      · have h := hs_it c h
        refine pw_aload_n eX9_digest_77 rfl ?_
        refine pw_getI eX9_digest_78 fl_X9_128 ob_67 rfl ?_
        exact pw_le (w_X9_digest_81 (q2.2.1 67 6) q2.2 h) ⟨rfl, trivial⟩
      · have h := hs_ie c h
        refine pw_bipush eX9_digest_72 kb_m5 ?_
        refine pw_goto (pc' := 81) eX9_digest_74 (by decide) ?_
        exact pw_le (w_X9_digest_81 (-5) q2.2 h) ⟨rfl, trivial⟩
    · have h := hs_ie c h
      refine pw_aload_n eX9_digest_44 rfl ?_
      refine pw_aload_n eX9_digest_45 rfl ?_
      refine pw_iload_n eX9_digest_46 rfl ?_
      refine pw_iconst eX9_digest_47 ki_5 ?_
      obtain ⟨v18, g, h⟩ := hs_bind h
      refine pw_idiv' eX9_digest_48 g ?_
      refine pw_iload_n eX9_digest_49 rfl ?_
      refine pw_iconst eX9_digest_50 ki_5 ?_
      obtain ⟨v19, g, h⟩ := hs_bind h
      refine pw_irem' eX9_digest_51 g ?_
      obtain ⟨q20, g, h⟩ := hs_bind h
      refine pw_mV2i eX9_digest_52 mv_X9_210 ob_67 (s_X9_toldOfKind g) (Nat.le_of_ble_eq_true rfl) ?_
      obtain ⟨σ21, g, h⟩ := hs_bind h
      refine pw_mV1v eX9_digest_55 mv_X9_261 ob_67 (s_X9_mix g) (Nat.le_of_ble_eq_true rfl) ?_
      refine pw_iinc eX9_digest_58 (by decide) rfl ki_1 rfl rfl ?_
      refine pw_goto (pc' := 32) eX9_digest_61 (by decide) ?_
      exact ih (x1 + 1) σ21 h
def f_X9_digest_9 : Nat → Int32 → HS → Option (Int64 × HS)
  | 0, _, _ => none
  | n + 1, x1, σ =>
    if (10 : Int32) ≤ x1 then
      f_X9_digest_32 FU 0 σ
    else
      (f_X9_toldOf x1 σ).bind fun q22 =>
      (f_X9_mix q22.1 q22.2).bind fun σ23 =>
      f_X9_digest_9 n (x1 + 1) σ23
set_option maxRecDepth 20000 in
theorem w_X9_digest_9 {d : Nat} {p : Int64 × HS} : ∀ (n : Nat) (x1 : Int32) (σ : HS), f_X9_digest_9 n x1 σ = some p → PW RX9 cX9_digest 2 (hs_zM (d + 8) (some .long) (some (.long p.1), p.2)) 9 [some (.ref 67), some (.int x1)] [] σ := by
  intro n
  induction n with
  | zero =>
    intro x1 σ h
    rw [f_X9_digest_9] at h
    cases h
  | succ n ih =>
    intro x1 σ h
    rw [f_X9_digest_9] at h
    refine pw_iload_n eX9_digest_9 rfl ?_
    refine pw_bipush eX9_digest_10 kb_10 ?_
    refine pw_icmp_ge (tgt := 30) eX9_digest_12 (by decide) (fun c => ?_) (fun c => ?_)
    · have h := hs_it c h
      refine pw_iconst eX9_digest_30 ki_0 ?_
      refine pw_istore_n eX9_digest_31 rfl (by decide) rfl rfl ?_
      exact w_X9_digest_32 FU 0 σ h
    · have h := hs_ie c h
      refine pw_aload_n eX9_digest_15 rfl ?_
      refine pw_aload_n eX9_digest_16 rfl ?_
      refine pw_iload_n eX9_digest_17 rfl ?_
      obtain ⟨q22, g, h⟩ := hs_bind h
      refine pw_mV1i eX9_digest_18 mv_X9_250 ob_67 (s_X9_toldOf g) (Nat.le_of_ble_eq_true rfl) ?_
      obtain ⟨σ23, g, h⟩ := hs_bind h
      refine pw_mV1v eX9_digest_21 mv_X9_261 ob_67 (s_X9_mix g) (Nat.le_of_ble_eq_true rfl) ?_
      refine pw_iinc eX9_digest_24 (by decide) rfl ki_1 rfl rfl ?_
      refine pw_goto (pc' := 9) eX9_digest_27 (by decide) ?_
      exact ih (x1 + 1) σ23 h
def f_X9_digest (σ : HS) : Option (Int64 × HS) :=
  f_X9_digest_9 FU 0 (sL σ 67 24 2459)
set_option maxRecDepth 20000 in
theorem s_X9_digest {d : Nat} {σ : HS} {p : Int64 × HS} (h : f_X9_digest σ = some p) : hs_Spec (d + 8) yX9_digest cX9_digest 2 (some .long) [.ref 67] σ (some (.long p.1), p.2) := by
  refine hs_spec' (by decide +kernel) rfl (Nat.le_of_ble_eq_true rfl) ?_
  show PW RX9 cX9_digest 2 (hs_zM (d + 8) (some .long) (some (.long p.1), p.2)) 0 [some (.ref 67), none] [] σ
  rw [f_X9_digest] at h
  refine pw_aload_n eX9_digest_0 rfl ?_
  refine pw_ldc2 eX9_digest_1 kc_X9_259 ?_
  refine pw_putJ eX9_digest_4 fw_X9_255 ob_67 rfl ?_
  refine pw_iconst eX9_digest_7 ki_0 ?_
  refine pw_istore_n eX9_digest_8 rfl (by decide) rfl rfl ?_
  exact w_X9_digest_9 FU 0 (sL σ 67 24 2459) h
