def f_X6_delay (s0 : Nat) (x1 : Int32) (x2 : Int32) (σ : HS) : Option (Int32 × HS) :=
  (f_X8_pair x1 x2 σ).bind fun q1 =>
  (ldI (q1.2.1 (s0 + 4)) 36 q1.1).bind fun v2 =>
  if v2 = 1 then
    (ldI (q1.2.1 (s0 + 3)) 6 x2).bind fun v3 =>
    (ldI (q1.2.1 (s0 + 2)) 5 v3).bind fun v4 =>
    some (v4, q1.2)
  else
    if v2 = 2 then
      if (q1.2.1 s0 7) = 0 then
        some (0, q1.2)
      else
        some ((-1), q1.2)
    else
      some ((-1), q1.2)
set_option maxRecDepth 20000 in
theorem s_X6_delay {d : Nat} {s0 : Nat} (hs0 : hs_IsS s0) {x1 : Int32} {x2 : Int32} {σ : HS} {p : Int32 × HS} (h : f_X6_delay s0 x1 x2 σ = some p) : hs_Spec (d + 2) yX6_delay cX6_delay 4 (some .int) [.ref s0, .int x1, .int x2] σ (some (.int p.1), p.2) := by
  refine hs_spec' (by decide +kernel) rfl (Nat.le_of_ble_eq_true rfl) ?_
  show PW RX6 cX6_delay 4 (hs_zM (d + 2) (some .int) (some (.int p.1), p.2)) 0 [some (.ref s0), some (.int x1), some (.int x2), none] [] σ
  rw [f_X6_delay] at h
  refine pw_aload_n eX6_delay_0 rfl ?_
  refine pw_getR (r := (s0 + 4)) eX6_delay_1 fl_X6_21 hs0.1 rfl ?_
  refine pw_iload_n eX6_delay_4 rfl ?_
  refine pw_iload_n eX6_delay_5 rfl ?_
  obtain ⟨q1, g, h⟩ := hs_bind h
  refine pw_mN2i eX6_delay_6 mn_X6_57 (s_X8_pair g) (Nat.le_of_ble_eq_true rfl) ?_
  obtain ⟨v2, g, h⟩ := hs_bind h
  refine pw_iald' eX6_delay_9 hs0.2.2.2.2 g ?_
  refine pw_istore_n eX6_delay_10 rfl (by decide) rfl rfl ?_
  refine pw_iload_n eX6_delay_11 rfl ?_
  refine pw_iconst eX6_delay_12 ki_1 ?_
  refine pw_icmp_ne (tgt := 28) eX6_delay_13 (by decide) (fun c => ?_) (fun c => ?_)
  · have h := hs_ie c h
    refine pw_iload_n eX6_delay_28 rfl ?_
    refine pw_iconst eX6_delay_29 ki_2 ?_
    refine pw_icmp_ne (tgt := 44) eX6_delay_30 (by decide) (fun c => ?_) (fun c => ?_)
    · have h := hs_ie c h
      refine pw_iconst eX6_delay_44 ki_m1 ?_
      exact pw_iret' eX6_delay_45 h
    · have h := hs_it c h
      refine pw_aload_n eX6_delay_33 rfl ?_
      refine pw_getI eX6_delay_34 fl_X6_40 hs0.1 rfl ?_
      refine pw_if_ne (tgt := 44) eX6_delay_37 (by decide) (fun c => ?_) (fun c => ?_)
      · have h := hs_ie c h
        refine pw_iconst eX6_delay_44 ki_m1 ?_
        exact pw_iret' eX6_delay_45 h
      · have h := hs_it c h
        refine pw_iconst eX6_delay_40 ki_0 ?_
        refine pw_goto (pc' := 45) eX6_delay_41 (by decide) ?_
        exact pw_iret' eX6_delay_45 h
  · have h := hs_it c h
    refine pw_aload_n eX6_delay_16 rfl ?_
    refine pw_getR (r := (s0 + 2)) eX6_delay_17 fl_X6_15 hs0.1 rfl ?_
    refine pw_aload_n eX6_delay_20 rfl ?_
    refine pw_getR (r := (s0 + 3)) eX6_delay_21 fl_X6_18 hs0.1 rfl ?_
    refine pw_iload_n eX6_delay_24 rfl ?_
    obtain ⟨v3, g, h⟩ := hs_bind h
    refine pw_iald' eX6_delay_25 hs0.2.2.2.1 g ?_
    obtain ⟨v4, g, h⟩ := hs_bind h
    refine pw_iald' eX6_delay_26 hs0.2.2.1 g ?_
    exact pw_iret' eX6_delay_27 h

def f_X6_isHold (x0 : Int32) (σ : HS) : Option (Int32 × HS) :=
  if x0 < 0 then
    some (0, σ)
  else
    if (15 : Int32) < x0 then
      some (0, σ)
    else
      some (1, σ)
set_option maxRecDepth 20000 in
theorem s_X6_isHold {d : Nat} {x0 : Int32} {σ : HS} {p : Int32 × HS} (h : f_X6_isHold x0 σ = some p) : hs_Spec (d + 1) yX6_isHold cX6_isHold 1 (some .boolean) [.int x0] σ (some (.int p.1), p.2) := by
  refine hs_spec' (by decide +kernel) rfl (Nat.le_of_ble_eq_true rfl) ?_
  show PW RX6 cX6_isHold 1 (hs_zM (d + 1) (some .boolean) (some (.int p.1), p.2)) 0 [some (.int x0)] [] σ
  rw [f_X6_isHold] at h
  refine pw_iload_n eX6_isHold_0 rfl ?_
  refine pw_if_lt (tgt := 14) eX6_isHold_1 (by decide) (fun c => ?_) (fun c => ?_)
  · have h := hs_it c h
    refine pw_iconst eX6_isHold_14 ki_0 ?_
    exact pw_zret' eX6_isHold_15 narrow_b0 h
  · have h := hs_ie c h
    refine pw_iload_n eX6_isHold_4 rfl ?_
    refine pw_bipush eX6_isHold_5 kb_15 ?_
    refine pw_icmp_gt (tgt := 14) eX6_isHold_7 (by decide) (fun c => ?_) (fun c => ?_)
    · have h := hs_it c h
      refine pw_iconst eX6_isHold_14 ki_0 ?_
      exact pw_zret' eX6_isHold_15 narrow_b0 h
    · have h := hs_ie c h
      refine pw_iconst eX6_isHold_10 ki_1 ?_
      refine pw_goto (pc' := 15) eX6_isHold_11 (by decide) ?_
      exact pw_zret' eX6_isHold_15 narrow_b1 h

def f_X6_addKind (s0 : Nat) (x1 : Int32) (x2 : Int32) (x3 : Int32) (x4 : Int32) (σ : HS) : Option (Int32 × HS) :=
  (f_X6_isHold x1 σ).bind fun q1 =>
  if q1.1 = 0 then
    some ((-2), q1.2)
  else
    (f_X6_isHold x2 q1.2).bind fun q2 =>
    if q2.1 = 0 then
      some ((-2), q2.2)
    else
      (f_X6_isHold x3 q2.2).bind fun q3 =>
      if q3.1 = 0 then
        some ((-2), q3.2)
      else
        if x4 < 1 then
          some ((-2), q3.2)
        else
          if x4 ≤ 5 then
            if (q3.2.1 s0 4) < 5 then
              (stI q3.2 (s0 + 1) 5 (q3.2.1 s0 4) ((x1 ||| (x2 <<< (4 &&& 31))) ||| (x3 <<< (8 &&& 31)))).bind fun σ4 =>
              (stI σ4 (s0 + 2) 5 (σ4.1 s0 4) x4).bind fun σ5 =>
              some ((((sI σ5 s0 4 ((σ5.1 s0 4) + 1)).1 s0 4) - 1), (sI σ5 s0 4 ((σ5.1 s0 4) + 1)))
            else
              some ((-4), q3.2)
          else
            some ((-2), q3.2)
set_option maxRecDepth 20000 in
theorem s_X6_addKind {d : Nat} {s0 : Nat} (hs0 : hs_IsS s0) {x1 : Int32} {x2 : Int32} {x3 : Int32} {x4 : Int32} {σ : HS} {p : Int32 × HS} (h : f_X6_addKind s0 x1 x2 x3 x4 σ = some p) : hs_Spec (d + 2) yX6_addKind cX6_addKind 5 (some .int) [.ref s0, .int x1, .int x2, .int x3, .int x4] σ (some (.int p.1), p.2) := by
  refine hs_spec' (by decide +kernel) rfl (Nat.le_of_ble_eq_true rfl) ?_
  show PW RX6 cX6_addKind 5 (hs_zM (d + 2) (some .int) (some (.int p.1), p.2)) 0 [some (.ref s0), some (.int x1), some (.int x2), some (.int x3), some (.int x4)] [] σ
  rw [f_X6_addKind] at h
  refine pw_iload_n eX6_addKind_0 rfl ?_
  obtain ⟨q1, g, h⟩ := hs_bind h
  refine pw_mS1i eX6_addKind_1 ms_X6_43 (s_X6_isHold g) (Nat.le_of_ble_eq_true rfl) ?_
  refine pw_if_eq (tgt := 33) eX6_addKind_4 (by decide) (fun c => ?_) (fun c => ?_)
  · have h := hs_it c h
    refine pw_bipush eX6_addKind_33 kb_m2 ?_
    exact pw_iret' eX6_addKind_35 h
  · have h := hs_ie c h
    refine pw_iload_n eX6_addKind_7 rfl ?_
    obtain ⟨q2, g, h⟩ := hs_bind h
    refine pw_mS1i eX6_addKind_8 ms_X6_43 (s_X6_isHold g) (Nat.le_of_ble_eq_true rfl) ?_
    refine pw_if_eq (tgt := 33) eX6_addKind_11 (by decide) (fun c => ?_) (fun c => ?_)
    · have h := hs_it c h
      refine pw_bipush eX6_addKind_33 kb_m2 ?_
      exact pw_iret' eX6_addKind_35 h
    · have h := hs_ie c h
      refine pw_iload_n eX6_addKind_14 rfl ?_
      obtain ⟨q3, g, h⟩ := hs_bind h
      refine pw_mS1i eX6_addKind_15 ms_X6_43 (s_X6_isHold g) (Nat.le_of_ble_eq_true rfl) ?_
      refine pw_if_eq (tgt := 33) eX6_addKind_18 (by decide) (fun c => ?_) (fun c => ?_)
      · have h := hs_it c h
        refine pw_bipush eX6_addKind_33 kb_m2 ?_
        exact pw_iret' eX6_addKind_35 h
      · have h := hs_ie c h
        refine pw_iload eX6_addKind_21 rfl ?_
        refine pw_iconst eX6_addKind_23 ki_1 ?_
        refine pw_icmp_lt (tgt := 33) eX6_addKind_24 (by decide) (fun c => ?_) (fun c => ?_)
        · have h := hs_it c h
          refine pw_bipush eX6_addKind_33 kb_m2 ?_
          exact pw_iret' eX6_addKind_35 h
        · have h := hs_ie c h
          refine pw_iload eX6_addKind_27 rfl ?_
          refine pw_iconst eX6_addKind_29 ki_5 ?_
          refine pw_icmp_le (tgt := 36) eX6_addKind_30 (by decide) (fun c => ?_) (fun c => ?_)
          · have h := hs_it c h
            refine pw_aload_n eX6_addKind_36 rfl ?_
            refine pw_getI eX6_addKind_37 fl_X6_34 hs0.1 rfl ?_
            refine pw_iconst eX6_addKind_40 ki_5 ?_
            refine pw_icmp_lt (tgt := 47) eX6_addKind_41 (by decide) (fun c => ?_) (fun c => ?_)
            · have h := hs_it c h
              refine pw_aload_n eX6_addKind_47 rfl ?_
              refine pw_getR (r := (s0 + 1)) eX6_addKind_48 fl_X6_9 hs0.1 rfl ?_
              refine pw_aload_n eX6_addKind_51 rfl ?_
              refine pw_getI eX6_addKind_52 fl_X6_34 hs0.1 rfl ?_
              refine pw_iload_n eX6_addKind_55 rfl ?_
              refine pw_iload_n eX6_addKind_56 rfl ?_
              refine pw_iconst eX6_addKind_57 ki_4 ?_
              refine pw_ishl eX6_addKind_58 ?_
              refine pw_ior eX6_addKind_59 ?_
              refine pw_iload_n eX6_addKind_60 rfl ?_
              refine pw_bipush eX6_addKind_61 kb_8 ?_
              refine pw_ishl eX6_addKind_63 ?_
              refine pw_ior eX6_addKind_64 ?_
              obtain ⟨σ4, g, h⟩ := hs_bind h
              refine pw_iast' eX6_addKind_65 hs0.2.1 g ?_
              refine pw_aload_n eX6_addKind_66 rfl ?_
              refine pw_getR (r := (s0 + 2)) eX6_addKind_67 fl_X6_15 hs0.1 rfl ?_
              refine pw_aload_n eX6_addKind_70 rfl ?_
              refine pw_getI eX6_addKind_71 fl_X6_34 hs0.1 rfl ?_
              refine pw_iload eX6_addKind_74 rfl ?_
              obtain ⟨σ5, g, h⟩ := hs_bind h
              refine pw_iast' eX6_addKind_76 hs0.2.2.1 g ?_
              refine pw_aload_n eX6_addKind_77 rfl ?_
              refine pw_dup eX6_addKind_78 rfl ?_
              refine pw_getI eX6_addKind_79 fl_X6_34 hs0.1 rfl ?_
              refine pw_iconst eX6_addKind_82 ki_1 ?_
              refine pw_iadd eX6_addKind_83 ?_
              refine pw_putI eX6_addKind_84 fw_X6_34 hs0.1 rfl ?_
              refine pw_aload_n eX6_addKind_87 rfl ?_
              refine pw_getI eX6_addKind_88 fl_X6_34 hs0.1 rfl ?_
              refine pw_iconst eX6_addKind_91 ki_1 ?_
              refine pw_isub eX6_addKind_92 ?_
              exact pw_iret' eX6_addKind_93 h
            · have h := hs_ie c h
              refine pw_bipush eX6_addKind_44 kb_m4 ?_
              exact pw_iret' eX6_addKind_46 h
          · have h := hs_ie c h
            refine pw_bipush eX6_addKind_33 kb_m2 ?_
            exact pw_iret' eX6_addKind_35 h

def f_X6_hasKind (s0 : Nat) (x1 : Int32) (σ : HS) : Option (Int32 × HS) :=
  if x1 < 0 then
    some (0, σ)
  else
    if (σ.1 s0 4) ≤ x1 then
      some (0, σ)
    else
      some (1, σ)
set_option maxRecDepth 20000 in
theorem s_X6_hasKind {d : Nat} {s0 : Nat} (hs0 : hs_IsS s0) {x1 : Int32} {σ : HS} {p : Int32 × HS} (h : f_X6_hasKind s0 x1 σ = some p) : hs_Spec (d + 1) yX6_hasKind cX6_hasKind 2 (some .boolean) [.ref s0, .int x1] σ (some (.int p.1), p.2) := by
  refine hs_spec' (by decide +kernel) rfl (Nat.le_of_ble_eq_true rfl) ?_
  show PW RX6 cX6_hasKind 2 (hs_zM (d + 1) (some .boolean) (some (.int p.1), p.2)) 0 [some (.ref s0), some (.int x1)] [] σ
  rw [f_X6_hasKind] at h
  refine pw_iload_n eX6_hasKind_0 rfl ?_
  refine pw_if_lt (tgt := 16) eX6_hasKind_1 (by decide) (fun c => ?_) (fun c => ?_)
  · have h := hs_it c h
    refine pw_iconst eX6_hasKind_16 ki_0 ?_
    exact pw_zret' eX6_hasKind_17 narrow_b0 h
  · have h := hs_ie c h
    refine pw_iload_n eX6_hasKind_4 rfl ?_
    refine pw_aload_n eX6_hasKind_5 rfl ?_
    refine pw_getI eX6_hasKind_6 fl_X6_34 hs0.1 rfl ?_
    refine pw_icmp_ge (tgt := 16) eX6_hasKind_9 (by decide) (fun c => ?_) (fun c => ?_)
    · have h := hs_it c h
      refine pw_iconst eX6_hasKind_16 ki_0 ?_
      exact pw_zret' eX6_hasKind_17 narrow_b0 h
    · have h := hs_ie c h
      refine pw_iconst eX6_hasKind_12 ki_1 ?_
      refine pw_goto (pc' := 17) eX6_hasKind_13 (by decide) ?_
      exact pw_zret' eX6_hasKind_17 narrow_b1 h

def f_X6_addInstruction (s0 : Nat) (x1 : Int32) (σ : HS) : Option (Int32 × HS) :=
  (f_X6_hasKind s0 x1 σ).bind fun q1 =>
  if q1.1 = 0 then
    some ((-2), q1.2)
  else
    if (q1.2.1 s0 5) < 6 then
      (stI q1.2 (s0 + 3) 6 (q1.2.1 s0 5) x1).bind fun σ2 =>
      some ((((sI σ2 s0 5 ((σ2.1 s0 5) + 1)).1 s0 5) - 1), (sI σ2 s0 5 ((σ2.1 s0 5) + 1)))
    else
      some ((-4), q1.2)
set_option maxRecDepth 20000 in
theorem s_X6_addInstruction {d : Nat} {s0 : Nat} (hs0 : hs_IsS s0) {x1 : Int32} {σ : HS} {p : Int32 × HS} (h : f_X6_addInstruction s0 x1 σ = some p) : hs_Spec (d + 2) yX6_addInstruction cX6_addInstruction 2 (some .int) [.ref s0, .int x1] σ (some (.int p.1), p.2) := by
  refine hs_spec' (by decide +kernel) rfl (Nat.le_of_ble_eq_true rfl) ?_
  show PW RX6 cX6_addInstruction 2 (hs_zM (d + 2) (some .int) (some (.int p.1), p.2)) 0 [some (.ref s0), some (.int x1)] [] σ
  rw [f_X6_addInstruction] at h
  refine pw_aload_n eX6_addInstruction_0 rfl ?_
  refine pw_iload_n eX6_addInstruction_1 rfl ?_
  obtain ⟨q1, g, h⟩ := hs_bind h
  refine pw_mV1i eX6_addInstruction_2 mv_X6_47 hs0.1 (s_X6_hasKind hs0 g) (Nat.le_of_ble_eq_true rfl) ?_
  refine pw_if_ne (tgt := 11) eX6_addInstruction_5 (by decide) (fun c => ?_) (fun c => ?_)
  · have h := hs_ie c h
    refine pw_aload_n eX6_addInstruction_11 rfl ?_
    refine pw_getI eX6_addInstruction_12 fl_X6_37 hs0.1 rfl ?_
    refine pw_bipush eX6_addInstruction_15 kb_6 ?_
    refine pw_icmp_lt (tgt := 23) eX6_addInstruction_17 (by decide) (fun c => ?_) (fun c => ?_)
    · have h := hs_it c h
      refine pw_aload_n eX6_addInstruction_23 rfl ?_
      refine pw_getR (r := (s0 + 3)) eX6_addInstruction_24 fl_X6_18 hs0.1 rfl ?_
      refine pw_aload_n eX6_addInstruction_27 rfl ?_
      refine pw_getI eX6_addInstruction_28 fl_X6_37 hs0.1 rfl ?_
      refine pw_iload_n eX6_addInstruction_31 rfl ?_
      obtain ⟨σ2, g, h⟩ := hs_bind h
      refine pw_iast' eX6_addInstruction_32 hs0.2.2.2.1 g ?_
      refine pw_aload_n eX6_addInstruction_33 rfl ?_
      refine pw_dup eX6_addInstruction_34 rfl ?_
      refine pw_getI eX6_addInstruction_35 fl_X6_37 hs0.1 rfl ?_
      refine pw_iconst eX6_addInstruction_38 ki_1 ?_
      refine pw_iadd eX6_addInstruction_39 ?_
      refine pw_putI eX6_addInstruction_40 fw_X6_37 hs0.1 rfl ?_
      refine pw_aload_n eX6_addInstruction_43 rfl ?_
      refine pw_getI eX6_addInstruction_44 fl_X6_37 hs0.1 rfl ?_
      refine pw_iconst eX6_addInstruction_47 ki_1 ?_
      refine pw_isub eX6_addInstruction_48 ?_
      exact pw_iret' eX6_addInstruction_49 h
    · have h := hs_ie c h
      refine pw_bipush eX6_addInstruction_20 kb_m4 ?_
      exact pw_iret' eX6_addInstruction_22 h
  · have h := hs_it c h
    refine pw_bipush eX6_addInstruction_8 kb_m2 ?_
    exact pw_iret' eX6_addInstruction_10 h

def f_X6_hasInstruction (s0 : Nat) (x1 : Int32) (σ : HS) : Option (Int32 × HS) :=
  if x1 < 0 then
    some (0, σ)
  else
    if (σ.1 s0 5) ≤ x1 then
      some (0, σ)
    else
      some (1, σ)
set_option maxRecDepth 20000 in
theorem s_X6_hasInstruction {d : Nat} {s0 : Nat} (hs0 : hs_IsS s0) {x1 : Int32} {σ : HS} {p : Int32 × HS} (h : f_X6_hasInstruction s0 x1 σ = some p) : hs_Spec (d + 1) yX6_hasInstruction cX6_hasInstruction 2 (some .boolean) [.ref s0, .int x1] σ (some (.int p.1), p.2) := by
  refine hs_spec' (by decide +kernel) rfl (Nat.le_of_ble_eq_true rfl) ?_
  show PW RX6 cX6_hasInstruction 2 (hs_zM (d + 1) (some .boolean) (some (.int p.1), p.2)) 0 [some (.ref s0), some (.int x1)] [] σ
  rw [f_X6_hasInstruction] at h
  refine pw_iload_n eX6_hasInstruction_0 rfl ?_
  refine pw_if_lt (tgt := 16) eX6_hasInstruction_1 (by decide) (fun c => ?_) (fun c => ?_)
  · have h := hs_it c h
    refine pw_iconst eX6_hasInstruction_16 ki_0 ?_
    exact pw_zret' eX6_hasInstruction_17 narrow_b0 h
  · have h := hs_ie c h
    refine pw_iload_n eX6_hasInstruction_4 rfl ?_
    refine pw_aload_n eX6_hasInstruction_5 rfl ?_
    refine pw_getI eX6_hasInstruction_6 fl_X6_37 hs0.1 rfl ?_
    refine pw_icmp_ge (tgt := 16) eX6_hasInstruction_9 (by decide) (fun c => ?_) (fun c => ?_)
    · have h := hs_it c h
      refine pw_iconst eX6_hasInstruction_16 ki_0 ?_
      exact pw_zret' eX6_hasInstruction_17 narrow_b0 h
    · have h := hs_ie c h
      refine pw_iconst eX6_hasInstruction_12 ki_1 ?_
      refine pw_goto (pc' := 17) eX6_hasInstruction_13 (by decide) ?_
      exact pw_zret' eX6_hasInstruction_17 narrow_b1 h

def f_X6_neededBy_4 (s0 : Nat) : Nat → Int32 → Int32 → Int32 → HS → Option (Int32 × HS)
  | 0, _, _, _, _ => none
  | n + 1, x1, x2, x3, σ =>
    if (σ.1 s0 5) ≤ x3 then
      some (x2, σ)
    else
      (f_X8_pair x1 x3 σ).bind fun q1 =>
      (ldI (q1.2.1 (s0 + 4)) 36 q1.1).bind fun v2 =>
      if v2 = 0 then
        f_X6_neededBy_4 s0 n x1 x2 (x3 + 1) q1.2
      else
        f_X6_neededBy_4 s0 n x1 (x2 ||| ((1 : Int32) <<< (x3 &&& 31))) (x3 + 1) q1.2
set_option maxRecDepth 20000 in
theorem w_X6_neededBy_4 {d : Nat} {s0 : Nat} (hs0 : hs_IsS s0) {p : Int32 × HS} : ∀ (n : Nat) (x1 : Int32) (x2 : Int32) (x3 : Int32) (σ : HS), f_X6_neededBy_4 s0 n x1 x2 x3 σ = some p → PW RX6 cX6_neededBy 4 (hs_zM (d + 2) (some .int) (some (.int p.1), p.2)) 4 [some (.ref s0), some (.int x1), some (.int x2), some (.int x3)] [] σ := by
  intro n
  induction n with
  | zero =>
    intro x1 x2 x3 σ h
    rw [f_X6_neededBy_4] at h
    cases h
  | succ n ih =>
    intro x1 x2 x3 σ h
    rw [f_X6_neededBy_4] at h
    refine pw_iload_n eX6_neededBy_4 rfl ?_
    refine pw_aload_n eX6_neededBy_5 rfl ?_
    refine pw_getI eX6_neededBy_6 fl_X6_37 hs0.1 rfl ?_
    refine pw_icmp_ge (tgt := 37) eX6_neededBy_9 (by decide) (fun c => ?_) (fun c => ?_)
    · have h := hs_it c h
      refine pw_iload_n eX6_neededBy_37 rfl ?_
      exact pw_iret' eX6_neededBy_38 h
    · have h := hs_ie c h
      refine pw_aload_n eX6_neededBy_12 rfl ?_
      refine pw_getR (r := (s0 + 4)) eX6_neededBy_13 fl_X6_21 hs0.1 rfl ?_
      refine pw_iload_n eX6_neededBy_16 rfl ?_
      refine pw_iload_n eX6_neededBy_17 rfl ?_
      obtain ⟨q1, g, h⟩ := hs_bind h
      refine pw_mN2i eX6_neededBy_18 mn_X6_57 (s_X8_pair g) (Nat.le_of_ble_eq_true rfl) ?_
      obtain ⟨v2, g, h⟩ := hs_bind h
      refine pw_iald' eX6_neededBy_21 hs0.2.2.2.2 g ?_
      refine pw_if_eq (tgt := 31) eX6_neededBy_22 (by decide) (fun c => ?_) (fun c => ?_)
      · have h := hs_it c h
        refine pw_iinc eX6_neededBy_31 (by decide) rfl ki_1 rfl rfl ?_
        refine pw_goto (pc' := 4) eX6_neededBy_34 (by decide) ?_
        exact ih x1 x2 (x3 + 1) q1.2 h
      · have h := hs_ie c h
        refine pw_iload_n eX6_neededBy_25 rfl ?_
        refine pw_iconst eX6_neededBy_26 ki_1 ?_
        refine pw_iload_n eX6_neededBy_27 rfl ?_
        refine pw_ishl eX6_neededBy_28 ?_
        refine pw_ior eX6_neededBy_29 ?_
        refine pw_istore_n eX6_neededBy_30 rfl (by decide) rfl rfl ?_
        refine pw_iinc eX6_neededBy_31 (by decide) rfl ki_1 rfl rfl ?_
        refine pw_goto (pc' := 4) eX6_neededBy_34 (by decide) ?_
        exact ih x1 (x2 ||| ((1 : Int32) <<< (x3 &&& 31))) (x3 + 1) q1.2 h
def f_X6_neededBy (s0 : Nat) (x1 : Int32) (σ : HS) : Option (Int32 × HS) :=
  f_X6_neededBy_4 s0 FU x1 0 0 σ
set_option maxRecDepth 20000 in
theorem s_X6_neededBy {d : Nat} {s0 : Nat} (hs0 : hs_IsS s0) {x1 : Int32} {σ : HS} {p : Int32 × HS} (h : f_X6_neededBy s0 x1 σ = some p) : hs_Spec (d + 2) yX6_neededBy cX6_neededBy 4 (some .int) [.ref s0, .int x1] σ (some (.int p.1), p.2) := by
  refine hs_spec' (by decide +kernel) rfl (Nat.le_of_ble_eq_true rfl) ?_
  show PW RX6 cX6_neededBy 4 (hs_zM (d + 2) (some .int) (some (.int p.1), p.2)) 0 [some (.ref s0), some (.int x1), none, none] [] σ
  rw [f_X6_neededBy] at h
  refine pw_iconst eX6_neededBy_0 ki_0 ?_
  refine pw_istore_n eX6_neededBy_1 rfl (by decide) rfl rfl ?_
  refine pw_iconst eX6_neededBy_2 ki_0 ?_
  refine pw_istore_n eX6_neededBy_3 rfl (by decide) rfl rfl ?_
  exact w_X6_neededBy_4 hs0 FU x1 0 0 σ h

def f_X6_reaches_19 (s0 : Nat) (k : Int32 → Int32 → Int32 → HS → Option (Int32 × HS)) : Nat → Int32 → Int32 → Int32 → Int32 → HS → Option (Int32 × HS)
  | 0, _, _, _, _, _ => none
  | n + 1, x2, x3, x4, x5, σ =>
    if (σ.1 s0 5) ≤ x5 then
      k x2 x3 x4 σ
    else
      if ((x3 >>> (x5 &&& 31)) &&& 1) = 0 then
        f_X6_reaches_19 s0 k n x2 x3 x4 (x5 + 1) σ
      else
        (f_X6_neededBy s0 x5 σ).bind fun q1 =>
        f_X6_reaches_19 s0 k n x2 (x3 ||| q1.1) x4 (x5 + 1) q1.2
set_option maxRecDepth 20000 in
theorem w_X6_reaches_19 {d : Nat} {s0 : Nat} (hs0 : hs_IsS s0) {p : Int32 × HS} {k : Int32 → Int32 → Int32 → HS → Option (Int32 × HS)} (hk : ∀ (x2 : Int32) (x3 : Int32) (x4 : Int32) (σ : HS), k x2 x3 x4 σ = some p → PW RX6 cX6_reaches 6 (hs_zM (d + 3) (some .boolean) (some (.int p.1), p.2)) 52 [some (.ref s0), none, some (.int x2), some (.int x3), some (.int x4), none] [] σ) : ∀ (n : Nat) (x2 : Int32) (x3 : Int32) (x4 : Int32) (x5 : Int32) (σ : HS), f_X6_reaches_19 s0 k n x2 x3 x4 x5 σ = some p → PW RX6 cX6_reaches 6 (hs_zM (d + 3) (some .boolean) (some (.int p.1), p.2)) 19 [some (.ref s0), none, some (.int x2), some (.int x3), some (.int x4), some (.int x5)] [] σ := by
  intro n
  induction n with
  | zero =>
    intro x2 x3 x4 x5 σ h
    rw [f_X6_reaches_19] at h
    cases h
  | succ n ih =>
    intro x2 x3 x4 x5 σ h
    rw [f_X6_reaches_19] at h
    refine pw_iload eX6_reaches_19 rfl ?_
    refine pw_aload_n eX6_reaches_21 rfl ?_
    refine pw_getI eX6_reaches_22 fl_X6_37 hs0.1 rfl ?_
    refine pw_icmp_ge (tgt := 52) eX6_reaches_25 (by decide) (fun c => ?_) (fun c => ?_)
    · have h := hs_it c h
      exact pw_le (hk x2 x3 x4 σ h) ⟨rfl, rfl, rfl, rfl, trivial⟩
    · have h := hs_ie c h
      refine pw_iload_n eX6_reaches_28 rfl ?_
      refine pw_iload eX6_reaches_29 rfl ?_
      refine pw_ishr eX6_reaches_31 ?_
      refine pw_iconst eX6_reaches_32 ki_1 ?_
      refine pw_iand eX6_reaches_33 ?_
      refine pw_if_eq (tgt := 46) eX6_reaches_34 (by decide) (fun c => ?_) (fun c => ?_)
      · have h := hs_it c h
        refine pw_iinc eX6_reaches_46 (by decide) rfl ki_1 rfl rfl ?_
        refine pw_goto (pc' := 19) eX6_reaches_49 (by decide) ?_
        exact ih x2 x3 x4 (x5 + 1) σ h
      · have h := hs_ie c h
        refine pw_iload_n eX6_reaches_37 rfl ?_
        refine pw_aload_n eX6_reaches_38 rfl ?_
        refine pw_iload eX6_reaches_39 rfl ?_
        obtain ⟨q1, g, h⟩ := hs_bind h
        refine pw_mV1i eX6_reaches_41 mv_X6_65 hs0.1 (s_X6_neededBy hs0 g) (Nat.le_of_ble_eq_true rfl) ?_
        refine pw_ior eX6_reaches_44 ?_
        refine pw_istore_n eX6_reaches_45 rfl (by decide) rfl rfl ?_
        refine pw_iinc eX6_reaches_46 (by decide) rfl ki_1 rfl rfl ?_
        refine pw_goto (pc' := 19) eX6_reaches_49 (by decide) ?_
        exact ih x2 (x3 ||| q1.1) x4 (x5 + 1) q1.2 h
def f_X6_reaches_7 (s0 : Nat) : Nat → Int32 → Int32 → Int32 → HS → Option (Int32 × HS)
  | 0, _, _, _, _ => none
  | n + 1, x2, x3, x4, σ =>
    if (σ.1 s0 5) ≤ x4 then
      if ((x3 >>> (x2 &&& 31)) &&& 1) = 0 then
        some (0, σ)
      else
        some (1, σ)
    else
      f_X6_reaches_19 s0 (fun e2 e3 e4 σ5 =>
        f_X6_reaches_7 s0 n e2 e3 (e4 + 1) σ5) FU x2 x3 x4 0 σ
set_option maxRecDepth 20000 in
theorem w_X6_reaches_7 {d : Nat} {s0 : Nat} (hs0 : hs_IsS s0) {p : Int32 × HS} : ∀ (n : Nat) (x2 : Int32) (x3 : Int32) (x4 : Int32) (σ : HS), f_X6_reaches_7 s0 n x2 x3 x4 σ = some p → PW RX6 cX6_reaches 6 (hs_zM (d + 3) (some .boolean) (some (.int p.1), p.2)) 7 [some (.ref s0), none, some (.int x2), some (.int x3), some (.int x4), none] [] σ := by
  intro n
  induction n with
  | zero =>
    intro x2 x3 x4 σ h
    rw [f_X6_reaches_7] at h
    cases h
  | succ n ih =>
    intro x2 x3 x4 σ h
    rw [f_X6_reaches_7] at h
    refine pw_iload eX6_reaches_7 rfl ?_
    refine pw_aload_n eX6_reaches_9 rfl ?_
    refine pw_getI eX6_reaches_10 fl_X6_37 hs0.1 rfl ?_
    refine pw_icmp_ge (tgt := 58) eX6_reaches_13 (by decide) (fun c => ?_) (fun c => ?_)
    · have h := hs_it c h
      refine pw_iload_n eX6_reaches_58 rfl ?_
      refine pw_iload_n eX6_reaches_59 rfl ?_
      refine pw_ishr eX6_reaches_60 ?_
      refine pw_iconst eX6_reaches_61 ki_1 ?_
      refine pw_iand eX6_reaches_62 ?_
      refine pw_if_eq (tgt := 70) eX6_reaches_63 (by decide) (fun c => ?_) (fun c => ?_)
      · have h := hs_it c h
        refine pw_iconst eX6_reaches_70 ki_0 ?_
        exact pw_zret' eX6_reaches_71 narrow_b0 h
      · have h := hs_ie c h
        refine pw_iconst eX6_reaches_66 ki_1 ?_
        refine pw_goto (pc' := 71) eX6_reaches_67 (by decide) ?_
        exact pw_zret' eX6_reaches_71 narrow_b1 h
    · have h := hs_ie c h
      refine pw_iconst eX6_reaches_16 ki_0 ?_
      refine pw_istore eX6_reaches_17 (by decide) rfl rfl ?_
      refine w_X6_reaches_19 hs0 (fun e2 e3 e4 σ5 h => ?_) FU x2 x3 x4 0 σ h
      refine pw_iinc eX6_reaches_52 (by decide) rfl ki_1 rfl rfl ?_
      refine pw_goto (pc' := 7) eX6_reaches_55 (by decide) ?_
      exact ih e2 e3 (e4 + 1) σ5 h
def f_X6_reaches (s0 : Nat) (x1 : Int32) (x2 : Int32) (σ : HS) : Option (Int32 × HS) :=
  f_X6_reaches_7 s0 FU x2 ((1 : Int32) <<< (x1 &&& 31)) 0 σ
set_option maxRecDepth 20000 in
theorem s_X6_reaches {d : Nat} {s0 : Nat} (hs0 : hs_IsS s0) {x1 : Int32} {x2 : Int32} {σ : HS} {p : Int32 × HS} (h : f_X6_reaches s0 x1 x2 σ = some p) : hs_Spec (d + 3) yX6_reaches cX6_reaches 6 (some .boolean) [.ref s0, .int x1, .int x2] σ (some (.int p.1), p.2) := by
  refine hs_spec' (by decide +kernel) rfl (Nat.le_of_ble_eq_true rfl) ?_
  show PW RX6 cX6_reaches 6 (hs_zM (d + 3) (some .boolean) (some (.int p.1), p.2)) 0 [some (.ref s0), some (.int x1), some (.int x2), none, none, none] [] σ
  rw [f_X6_reaches] at h
  refine pw_iconst eX6_reaches_0 ki_1 ?_
  refine pw_iload_n eX6_reaches_1 rfl ?_
  refine pw_ishl eX6_reaches_2 ?_
  refine pw_istore_n eX6_reaches_3 rfl (by decide) rfl rfl ?_
  refine pw_iconst eX6_reaches_4 ki_0 ?_
  refine pw_istore eX6_reaches_5 (by decide) rfl rfl ?_
  exact pw_le (w_X6_reaches_7 hs0 FU x2 ((1 : Int32) <<< (x1 &&& 31)) 0 σ h) ⟨rfl, rfl, rfl, rfl, trivial⟩

def f_X6_changeNeed_49 (s0 : Nat) (x1 : Int32) (x2 : Int32) (x3 : Int32) (σ : HS) : Option (Int32 × HS) :=
  (f_X8_pair x1 x2 σ).bind fun q3 =>
  (ldI (q3.2.1 (s0 + 4)) 36 q3.1).bind fun v4 =>
  (f_X8_pair x1 x2 q3.2).bind fun q5 =>
  (stI q5.2 (s0 + 4) 36 q5.1 x3).bind fun σ6 =>
  some (v4, σ6)
set_option maxRecDepth 20000 in
theorem w_X6_changeNeed_49 {d : Nat} {s0 : Nat} (hs0 : hs_IsS s0) {p : Int32 × HS} : ∀ (x1 : Int32) (x2 : Int32) (x3 : Int32) (σ : HS), f_X6_changeNeed_49 s0 x1 x2 x3 σ = some p → PW RX6 cX6_changeNeed 5 (hs_zM (d + 4) (some .int) (some (.int p.1), p.2)) 49 [some (.ref s0), some (.int x1), some (.int x2), some (.int x3), none] [] σ := by
  intro x1 x2 x3 σ h
  rw [f_X6_changeNeed_49] at h
  refine pw_aload_n eX6_changeNeed_49 rfl ?_
  refine pw_getR (r := (s0 + 4)) eX6_changeNeed_50 fl_X6_21 hs0.1 rfl ?_
  refine pw_iload_n eX6_changeNeed_53 rfl ?_
  refine pw_iload_n eX6_changeNeed_54 rfl ?_
  obtain ⟨q3, g, h⟩ := hs_bind h
  refine pw_mN2i eX6_changeNeed_55 mn_X6_57 (s_X8_pair g) (Nat.le_of_ble_eq_true rfl) ?_
  obtain ⟨v4, g, h⟩ := hs_bind h
  refine pw_iald' eX6_changeNeed_58 hs0.2.2.2.2 g ?_
  refine pw_istore eX6_changeNeed_59 (by decide) rfl rfl ?_
  refine pw_aload_n eX6_changeNeed_61 rfl ?_
  refine pw_getR (r := (s0 + 4)) eX6_changeNeed_62 fl_X6_21 hs0.1 rfl ?_
  refine pw_iload_n eX6_changeNeed_65 rfl ?_
  refine pw_iload_n eX6_changeNeed_66 rfl ?_
  obtain ⟨q5, g, h⟩ := hs_bind h
  refine pw_mN2i eX6_changeNeed_67 mn_X6_57 (s_X8_pair g) (Nat.le_of_ble_eq_true rfl) ?_
  refine pw_iload_n eX6_changeNeed_70 rfl ?_
  obtain ⟨σ6, g, h⟩ := hs_bind h
  refine pw_iast' eX6_changeNeed_71 hs0.2.2.2.2 g ?_
  refine pw_iload eX6_changeNeed_72 rfl ?_
  exact pw_iret' eX6_changeNeed_74 h
def f_X6_changeNeed (s0 : Nat) (x1 : Int32) (x2 : Int32) (x3 : Int32) (σ : HS) : Option (Int32 × HS) :=
  (f_X6_hasInstruction s0 x1 σ).bind fun q1 =>
  if q1.1 = 0 then
    some ((-2), q1.2)
  else
    (f_X6_hasInstruction s0 x2 q1.2).bind fun q2 =>
    if q2.1 = 0 then
      some ((-2), q2.2)
    else
      if x1 = x2 then
        some ((-2), q2.2)
      else
        if x3 < 0 then
          some ((-2), q2.2)
        else
          if x3 ≤ 2 then
            if x3 = 0 then
              f_X6_changeNeed_49 s0 x1 x2 x3 q2.2
            else
              (f_X6_reaches s0 x2 x1 q2.2).bind fun q7 =>
              if q7.1 = 0 then
                f_X6_changeNeed_49 s0 x1 x2 x3 q7.2
              else
                some ((-3), q7.2)
          else
            some ((-2), q2.2)
set_option maxRecDepth 20000 in
theorem s_X6_changeNeed {d : Nat} {s0 : Nat} (hs0 : hs_IsS s0) {x1 : Int32} {x2 : Int32} {x3 : Int32} {σ : HS} {p : Int32 × HS} (h : f_X6_changeNeed s0 x1 x2 x3 σ = some p) : hs_Spec (d + 4) yX6_changeNeed cX6_changeNeed 5 (some .int) [.ref s0, .int x1, .int x2, .int x3] σ (some (.int p.1), p.2) := by
  refine hs_spec' (by decide +kernel) rfl (Nat.le_of_ble_eq_true rfl) ?_
  show PW RX6 cX6_changeNeed 5 (hs_zM (d + 4) (some .int) (some (.int p.1), p.2)) 0 [some (.ref s0), some (.int x1), some (.int x2), some (.int x3), none] [] σ
  rw [f_X6_changeNeed] at h
  refine pw_aload_n eX6_changeNeed_0 rfl ?_
  refine pw_iload_n eX6_changeNeed_1 rfl ?_
  obtain ⟨q1, g, h⟩ := hs_bind h
  refine pw_mV1i eX6_changeNeed_2 mv_X6_50 hs0.1 (s_X6_hasInstruction hs0 g) (Nat.le_of_ble_eq_true rfl) ?_
  refine pw_if_eq (tgt := 30) eX6_changeNeed_5 (by decide) (fun c => ?_) (fun c => ?_)
  · have h := hs_it c h
    refine pw_bipush eX6_changeNeed_30 kb_m2 ?_
    exact pw_iret' eX6_changeNeed_32 h
  · have h := hs_ie c h
    refine pw_aload_n eX6_changeNeed_8 rfl ?_
    refine pw_iload_n eX6_changeNeed_9 rfl ?_
    obtain ⟨q2, g, h⟩ := hs_bind h
    refine pw_mV1i eX6_changeNeed_10 mv_X6_50 hs0.1 (s_X6_hasInstruction hs0 g) (Nat.le_of_ble_eq_true rfl) ?_
    refine pw_if_eq (tgt := 30) eX6_changeNeed_13 (by decide) (fun c => ?_) (fun c => ?_)
    · have h := hs_it c h
      refine pw_bipush eX6_changeNeed_30 kb_m2 ?_
      exact pw_iret' eX6_changeNeed_32 h
    · have h := hs_ie c h
      refine pw_iload_n eX6_changeNeed_16 rfl ?_
      refine pw_iload_n eX6_changeNeed_17 rfl ?_
      refine pw_icmp_eq (tgt := 30) eX6_changeNeed_18 (by decide) (fun c => ?_) (fun c => ?_)
      · have h := hs_it c h
        refine pw_bipush eX6_changeNeed_30 kb_m2 ?_
        exact pw_iret' eX6_changeNeed_32 h
      · have h := hs_ie c h
        refine pw_iload_n eX6_changeNeed_21 rfl ?_
        refine pw_if_lt (tgt := 30) eX6_changeNeed_22 (by decide) (fun c => ?_) (fun c => ?_)
        · have h := hs_it c h
          refine pw_bipush eX6_changeNeed_30 kb_m2 ?_
          exact pw_iret' eX6_changeNeed_32 h
        · have h := hs_ie c h
          refine pw_iload_n eX6_changeNeed_25 rfl ?_
          refine pw_iconst eX6_changeNeed_26 ki_2 ?_
          refine pw_icmp_le (tgt := 33) eX6_changeNeed_27 (by decide) (fun c => ?_) (fun c => ?_)
          · have h := hs_it c h
            refine pw_iload_n eX6_changeNeed_33 rfl ?_
            refine pw_if_eq (tgt := 49) eX6_changeNeed_34 (by decide) (fun c => ?_) (fun c => ?_)
            · have h := hs_it c h
              exact w_X6_changeNeed_49 hs0 x1 x2 x3 q2.2 h
            · have h := hs_ie c h
              refine pw_aload_n eX6_changeNeed_37 rfl ?_
              refine pw_iload_n eX6_changeNeed_38 rfl ?_
              refine pw_iload_n eX6_changeNeed_39 rfl ?_
              obtain ⟨q7, g, h⟩ := hs_bind h
              refine pw_mV2i eX6_changeNeed_40 mv_X6_53 hs0.1 (s_X6_reaches hs0 g) (Nat.le_of_ble_eq_true rfl) ?_
              refine pw_if_eq (tgt := 49) eX6_changeNeed_43 (by decide) (fun c => ?_) (fun c => ?_)
              · have h := hs_it c h
                exact w_X6_changeNeed_49 hs0 x1 x2 x3 q7.2 h
              · have h := hs_ie c h
                refine pw_bipush eX6_changeNeed_46 kb_m3 ?_
                exact pw_iret' eX6_changeNeed_48 h
          · have h := hs_ie c h
            refine pw_bipush eX6_changeNeed_30 kb_m2 ?_
            exact pw_iret' eX6_changeNeed_32 h

def f_X6_change_26 (s0 : Nat) (x1 : Int32) (x2 : Int32) (σ : HS) : Option (Int32 × HS) :=
  if x1 = 1 then
    if x2 = 0 then
      some ((σ.1 s0 7), (sI σ s0 7 x2))
    else
      if x2 = 1 then
        some ((σ.1 s0 7), (sI σ s0 7 x2))
      else
        some ((-2), σ)
  else
    some ((-2), σ)
set_option maxRecDepth 20000 in
theorem w_X6_change_26 {d : Nat} {s0 : Nat} (hs0 : hs_IsS s0) {p : Int32 × HS} : ∀ (x1 : Int32) (x2 : Int32) (σ : HS), f_X6_change_26 s0 x1 x2 σ = some p → PW RX6 cX6_change 4 (hs_zM (d + 1) (some .int) (some (.int p.1), p.2)) 26 [some (.ref s0), some (.int x1), some (.int x2), none] [] σ := by
  intro x1 x2 σ h
  rw [f_X6_change_26] at h
  refine pw_iload_n eX6_change_26 rfl ?_
  refine pw_iconst eX6_change_27 ki_1 ?_
  refine pw_icmp_ne (tgt := 52) eX6_change_28 (by decide) (fun c => ?_) (fun c => ?_)
  · have h := hs_ie c h
    refine pw_bipush eX6_change_52 kb_m2 ?_
    exact pw_iret' eX6_change_54 h
  · have h := hs_it c h
    refine pw_iload_n eX6_change_31 rfl ?_
    refine pw_if_eq (tgt := 40) eX6_change_32 (by decide) (fun c => ?_) (fun c => ?_)
    · have h := hs_it c h
      refine pw_aload_n eX6_change_40 rfl ?_
      refine pw_getI eX6_change_41 fl_X6_40 hs0.1 rfl ?_
      refine pw_istore_n eX6_change_44 rfl (by decide) rfl rfl ?_
      refine pw_aload_n eX6_change_45 rfl ?_
      refine pw_iload_n eX6_change_46 rfl ?_
      refine pw_putI eX6_change_47 fw_X6_40 hs0.1 rfl ?_
      refine pw_iload_n eX6_change_50 rfl ?_
      exact pw_iret' eX6_change_51 h
    · have h := hs_ie c h
      refine pw_iload_n eX6_change_35 rfl ?_
      refine pw_iconst eX6_change_36 ki_1 ?_
      refine pw_icmp_ne (tgt := 52) eX6_change_37 (by decide) (fun c => ?_) (fun c => ?_)
      · have h := hs_ie c h
        refine pw_bipush eX6_change_52 kb_m2 ?_
        exact pw_iret' eX6_change_54 h
      · have h := hs_it c h
        refine pw_aload_n eX6_change_40 rfl ?_
        refine pw_getI eX6_change_41 fl_X6_40 hs0.1 rfl ?_
        refine pw_istore_n eX6_change_44 rfl (by decide) rfl rfl ?_
        refine pw_aload_n eX6_change_45 rfl ?_
        refine pw_iload_n eX6_change_46 rfl ?_
        refine pw_putI eX6_change_47 fw_X6_40 hs0.1 rfl ?_
        refine pw_iload_n eX6_change_50 rfl ?_
        exact pw_iret' eX6_change_51 h
def f_X6_change (s0 : Nat) (x1 : Int32) (x2 : Int32) (σ : HS) : Option (Int32 × HS) :=
  if x1 = 0 then
    if x2 < 1 then
      f_X6_change_26 s0 x1 x2 σ
    else
      if (3 : Int32) < x2 then
        f_X6_change_26 s0 x1 x2 σ
      else
        some ((σ.1 s0 6), (sI σ s0 6 x2))
  else
    f_X6_change_26 s0 x1 x2 σ
set_option maxRecDepth 20000 in
theorem s_X6_change {d : Nat} {s0 : Nat} (hs0 : hs_IsS s0) {x1 : Int32} {x2 : Int32} {σ : HS} {p : Int32 × HS} (h : f_X6_change s0 x1 x2 σ = some p) : hs_Spec (d + 1) yX6_change cX6_change 4 (some .int) [.ref s0, .int x1, .int x2] σ (some (.int p.1), p.2) := by
  refine hs_spec' (by decide +kernel) rfl (Nat.le_of_ble_eq_true rfl) ?_
  show PW RX6 cX6_change 4 (hs_zM (d + 1) (some .int) (some (.int p.1), p.2)) 0 [some (.ref s0), some (.int x1), some (.int x2), none] [] σ
  rw [f_X6_change] at h
  refine pw_iload_n eX6_change_0 rfl ?_
  refine pw_if_ne (tgt := 26) eX6_change_1 (by decide) (fun c => ?_) (fun c => ?_)
  · have h := hs_ie c h
    exact w_X6_change_26 hs0 x1 x2 σ h
  · have h := hs_it c h
    refine pw_iload_n eX6_change_4 rfl ?_
    refine pw_iconst eX6_change_5 ki_1 ?_
    refine pw_icmp_lt (tgt := 26) eX6_change_6 (by decide) (fun c => ?_) (fun c => ?_)
    · have h := hs_it c h
      exact w_X6_change_26 hs0 x1 x2 σ h
    · have h := hs_ie c h
      refine pw_iload_n eX6_change_9 rfl ?_
      refine pw_iconst eX6_change_10 ki_3 ?_
      refine pw_icmp_gt (tgt := 26) eX6_change_11 (by decide) (fun c => ?_) (fun c => ?_)
      · have h := hs_it c h
        exact w_X6_change_26 hs0 x1 x2 σ h
      · have h := hs_ie c h
        refine pw_aload_n eX6_change_14 rfl ?_
        refine pw_getI eX6_change_15 fl_X6_24 hs0.1 rfl ?_
        refine pw_istore_n eX6_change_18 rfl (by decide) rfl rfl ?_
        refine pw_aload_n eX6_change_19 rfl ?_
        refine pw_iload_n eX6_change_20 rfl ?_
        refine pw_putI eX6_change_21 fw_X6_24 hs0.1 rfl ?_
        refine pw_iload_n eX6_change_24 rfl ?_
        exact pw_iret' eX6_change_25 h

def f_X6_clearNeedsFrom_2 (s0 : Nat) : Nat → Int32 → Int32 → HS → Option (HS)
  | 0, _, _, _ => none
  | n + 1, x1, x2, σ =>
    if x1 < x2 then
      some σ
    else
      (f_X8_pair x2 x1 σ).bind fun q1 =>
      (stI q1.2 (s0 + 4) 36 q1.1 0).bind fun σ2 =>
      (f_X8_pair x1 x2 σ2).bind fun q3 =>
      (stI q3.2 (s0 + 4) 36 q3.1 0).bind fun σ4 =>
      f_X6_clearNeedsFrom_2 s0 n x1 (x2 + 1) σ4
set_option maxRecDepth 20000 in
theorem w_X6_clearNeedsFrom_2 {d : Nat} {s0 : Nat} (hs0 : hs_IsS s0) {p : HS} : ∀ (n : Nat) (x1 : Int32) (x2 : Int32) (σ : HS), f_X6_clearNeedsFrom_2 s0 n x1 x2 σ = some p → PW RX6 cX6_clearNeedsFrom 3 (hs_zM (d + 2) none (none, p)) 2 [some (.ref s0), some (.int x1), some (.int x2)] [] σ := by
  intro n
  induction n with
  | zero =>
    intro x1 x2 σ h
    rw [f_X6_clearNeedsFrom_2] at h
    cases h
  | succ n ih =>
    intro x1 x2 σ h
    rw [f_X6_clearNeedsFrom_2] at h
    refine pw_iload_n eX6_clearNeedsFrom_2 rfl ?_
    refine pw_iload_n eX6_clearNeedsFrom_3 rfl ?_
    refine pw_icmp_gt (tgt := 35) eX6_clearNeedsFrom_4 (by decide) (fun c => ?_) (fun c => ?_)
    · have h := hs_it c h
      exact pw_vret' eX6_clearNeedsFrom_35 h
    · have h := hs_ie c h
      refine pw_aload_n eX6_clearNeedsFrom_7 rfl ?_
      refine pw_getR (r := (s0 + 4)) eX6_clearNeedsFrom_8 fl_X6_21 hs0.1 rfl ?_
      refine pw_iload_n eX6_clearNeedsFrom_11 rfl ?_
      refine pw_iload_n eX6_clearNeedsFrom_12 rfl ?_
      obtain ⟨q1, g, h⟩ := hs_bind h
      refine pw_mN2i eX6_clearNeedsFrom_13 mn_X6_57 (s_X8_pair g) (Nat.le_of_ble_eq_true rfl) ?_
      refine pw_iconst eX6_clearNeedsFrom_16 ki_0 ?_
      obtain ⟨σ2, g, h⟩ := hs_bind h
      refine pw_iast' eX6_clearNeedsFrom_17 hs0.2.2.2.2 g ?_
      refine pw_aload_n eX6_clearNeedsFrom_18 rfl ?_
      refine pw_getR (r := (s0 + 4)) eX6_clearNeedsFrom_19 fl_X6_21 hs0.1 rfl ?_
      refine pw_iload_n eX6_clearNeedsFrom_22 rfl ?_
      refine pw_iload_n eX6_clearNeedsFrom_23 rfl ?_
      obtain ⟨q3, g, h⟩ := hs_bind h
      refine pw_mN2i eX6_clearNeedsFrom_24 mn_X6_57 (s_X8_pair g) (Nat.le_of_ble_eq_true rfl) ?_
      refine pw_iconst eX6_clearNeedsFrom_27 ki_0 ?_
      obtain ⟨σ4, g, h⟩ := hs_bind h
      refine pw_iast' eX6_clearNeedsFrom_28 hs0.2.2.2.2 g ?_
      refine pw_iinc eX6_clearNeedsFrom_29 (by decide) rfl ki_1 rfl rfl ?_
      refine pw_goto (pc' := 2) eX6_clearNeedsFrom_32 (by decide) ?_
      exact ih x1 (x2 + 1) σ4 h
def f_X6_clearNeedsFrom (s0 : Nat) (x1 : Int32) (σ : HS) : Option (HS) :=
  f_X6_clearNeedsFrom_2 s0 FU x1 0 σ
set_option maxRecDepth 20000 in
theorem s_X6_clearNeedsFrom {d : Nat} {s0 : Nat} (hs0 : hs_IsS s0) {x1 : Int32} {σ : HS} {p : HS} (h : f_X6_clearNeedsFrom s0 x1 σ = some p) : hs_Spec (d + 2) yX6_clearNeedsFrom cX6_clearNeedsFrom 3 none [.ref s0, .int x1] σ (none, p) := by
  refine hs_spec' (by decide +kernel) rfl (Nat.le_of_ble_eq_true rfl) ?_
  show PW RX6 cX6_clearNeedsFrom 3 (hs_zM (d + 2) none (none, p)) 0 [some (.ref s0), some (.int x1), none] [] σ
  rw [f_X6_clearNeedsFrom] at h
  refine pw_iconst eX6_clearNeedsFrom_0 ki_0 ?_
  refine pw_istore_n eX6_clearNeedsFrom_1 rfl (by decide) rfl rfl ?_
  exact w_X6_clearNeedsFrom_2 hs0 FU x1 0 σ h

def f_X6_removeInstruction_97 (s0 : Nat) (rec : Int32 → Int32 → Int32 → HS → Option (Int32 × HS)) (x1 : Int32) (x2 : Int32) (x3 : Int32) (x4 : Int32) (t0 : Int32) (σ : HS) : Option (Int32 × HS) :=
  (f_X8_pair x2 x3 σ).bind fun q3 =>
  (f_X8_pair x4 t0 q3.2).bind fun q4 =>
  (ldI (q4.2.1 (s0 + 4)) 36 q4.1).bind fun v5 =>
  (stI q4.2 (s0 + 4) 36 q3.1 v5).bind fun σ6 =>
  rec x1 x2 (x3 + 1) σ6
set_option maxRecDepth 20000 in
theorem w_X6_removeInstruction_97 {d : Nat} {s0 : Nat} (hs0 : hs_IsS s0) {p : Int32 × HS} {rec : Int32 → Int32 → Int32 → HS → Option (Int32 × HS)} (hrec : ∀ (x1 : Int32) (x2 : Int32) (x3 : Int32) (σ : HS), rec x1 x2 x3 σ = some p → PW RX6 cX6_removeInstruction 6 (hs_zM (d + 3) (some .int) (some (.int p.1), p.2)) 63 [some (.ref s0), some (.int x1), some (.int x2), some (.int x3), none, none] [] σ) : ∀ (x1 : Int32) (x2 : Int32) (x3 : Int32) (x4 : Int32) (t0 : Int32) (σ : HS), f_X6_removeInstruction_97 s0 rec x1 x2 x3 x4 t0 σ = some p → PW RX6 cX6_removeInstruction 6 (hs_zM (d + 3) (some .int) (some (.int p.1), p.2)) 97 [some (.ref s0), some (.int x1), some (.int x2), some (.int x3), some (.int x4), none] [.int t0] σ := by
  intro x1 x2 x3 x4 t0 σ h
  rw [f_X6_removeInstruction_97] at h
  refine pw_istore eX6_removeInstruction_97 (by decide) rfl rfl ?_
  refine pw_aload_n eX6_removeInstruction_99 rfl ?_
  refine pw_getR (r := (s0 + 4)) eX6_removeInstruction_100 fl_X6_21 hs0.1 rfl ?_
  refine pw_iload_n eX6_removeInstruction_103 rfl ?_
  refine pw_iload_n eX6_removeInstruction_104 rfl ?_
  obtain ⟨q3, g, h⟩ := hs_bind h
  refine pw_mN2i eX6_removeInstruction_105 mn_X6_57 (s_X8_pair g) (Nat.le_of_ble_eq_true rfl) ?_
  refine pw_aload_n eX6_removeInstruction_108 rfl ?_
  refine pw_getR (r := (s0 + 4)) eX6_removeInstruction_109 fl_X6_21 hs0.1 rfl ?_
  refine pw_iload eX6_removeInstruction_112 rfl ?_
  refine pw_iload eX6_removeInstruction_114 rfl ?_
  obtain ⟨q4, g, h⟩ := hs_bind h
  refine pw_mN2i eX6_removeInstruction_116 mn_X6_57 (s_X8_pair g) (Nat.le_of_ble_eq_true rfl) ?_
  obtain ⟨v5, g, h⟩ := hs_bind h
  refine pw_iald' eX6_removeInstruction_119 hs0.2.2.2.2 g ?_
  obtain ⟨σ6, g, h⟩ := hs_bind h
  refine pw_iast' eX6_removeInstruction_120 hs0.2.2.2.2 g ?_
  refine pw_iinc eX6_removeInstruction_121 (by decide) rfl ki_1 rfl rfl ?_
  refine pw_goto (pc' := 63) eX6_removeInstruction_124 (by decide) ?_
  exact pw_le (hrec x1 x2 (x3 + 1) σ6 h) ⟨rfl, rfl, rfl, rfl, trivial⟩
def f_X6_removeInstruction_83 (s0 : Nat) (rec : Int32 → Int32 → Int32 → HS → Option (Int32 × HS)) (x1 : Int32) (x2 : Int32) (x3 : Int32) (t0 : Int32) (σ : HS) : Option (Int32 × HS) :=
  if x1 ≤ x3 then
    f_X6_removeInstruction_97 s0 rec x1 x2 x3 t0 (x3 + 1) σ
  else
    f_X6_removeInstruction_97 s0 rec x1 x2 x3 t0 x3 σ
set_option maxRecDepth 20000 in
theorem w_X6_removeInstruction_83 {d : Nat} {s0 : Nat} (hs0 : hs_IsS s0) {p : Int32 × HS} {rec : Int32 → Int32 → Int32 → HS → Option (Int32 × HS)} (hrec : ∀ (x1 : Int32) (x2 : Int32) (x3 : Int32) (σ : HS), rec x1 x2 x3 σ = some p → PW RX6 cX6_removeInstruction 6 (hs_zM (d + 3) (some .int) (some (.int p.1), p.2)) 63 [some (.ref s0), some (.int x1), some (.int x2), some (.int x3), none, none] [] σ) : ∀ (x1 : Int32) (x2 : Int32) (x3 : Int32) (t0 : Int32) (σ : HS), f_X6_removeInstruction_83 s0 rec x1 x2 x3 t0 σ = some p → PW RX6 cX6_removeInstruction 6 (hs_zM (d + 3) (some .int) (some (.int p.1), p.2)) 83 [some (.ref s0), some (.int x1), some (.int x2), some (.int x3), none, none] [.int t0] σ := by
  intro x1 x2 x3 t0 σ h
  rw [f_X6_removeInstruction_83] at h
  refine pw_istore eX6_removeInstruction_83 (by decide) rfl rfl ?_
  refine pw_iload_n eX6_removeInstruction_85 rfl ?_
  refine pw_iload_n eX6_removeInstruction_86 rfl ?_
  refine pw_icmp_ge (tgt := 94) eX6_removeInstruction_87 (by decide) (fun c => ?_) (fun c => ?_)
  · have h := hs_it c h
    refine pw_iload_n eX6_removeInstruction_94 rfl ?_
    refine pw_iconst eX6_removeInstruction_95 ki_1 ?_
    refine pw_iadd eX6_removeInstruction_96 ?_
    exact w_X6_removeInstruction_97 hs0 hrec x1 x2 x3 t0 (x3 + 1) σ h
  · have h := hs_ie c h
    refine pw_iload_n eX6_removeInstruction_90 rfl ?_
    refine pw_goto (pc' := 97) eX6_removeInstruction_91 (by decide) ?_
    exact w_X6_removeInstruction_97 hs0 hrec x1 x2 x3 t0 x3 σ h
def f_X6_removeInstruction_63 (s0 : Nat) (k : Int32 → Int32 → HS → Option (Int32 × HS)) : Nat → Int32 → Int32 → Int32 → HS → Option (Int32 × HS)
  | 0, _, _, _, _ => none
  | n + 1, x1, x2, x3, σ =>
    if (σ.1 s0 5) ≤ x3 then
      k x1 x2 σ
    else
      if x1 ≤ x2 then
        f_X6_removeInstruction_83 s0 (f_X6_removeInstruction_63 s0 k n) x1 x2 x3 (x2 + 1) σ
      else
        f_X6_removeInstruction_83 s0 (f_X6_removeInstruction_63 s0 k n) x1 x2 x3 x2 σ
set_option maxRecDepth 20000 in
theorem w_X6_removeInstruction_63 {d : Nat} {s0 : Nat} (hs0 : hs_IsS s0) {p : Int32 × HS} {k : Int32 → Int32 → HS → Option (Int32 × HS)} (hk : ∀ (x1 : Int32) (x2 : Int32) (σ : HS), k x1 x2 σ = some p → PW RX6 cX6_removeInstruction 6 (hs_zM (d + 3) (some .int) (some (.int p.1), p.2)) 127 [some (.ref s0), some (.int x1), some (.int x2), none, none, none] [] σ) : ∀ (n : Nat) (x1 : Int32) (x2 : Int32) (x3 : Int32) (σ : HS), f_X6_removeInstruction_63 s0 k n x1 x2 x3 σ = some p → PW RX6 cX6_removeInstruction 6 (hs_zM (d + 3) (some .int) (some (.int p.1), p.2)) 63 [some (.ref s0), some (.int x1), some (.int x2), some (.int x3), none, none] [] σ := by
  intro n
  induction n with
  | zero =>
    intro x1 x2 x3 σ h
    rw [f_X6_removeInstruction_63] at h
    cases h
  | succ n ih =>
    intro x1 x2 x3 σ h
    rw [f_X6_removeInstruction_63] at h
    refine pw_iload_n eX6_removeInstruction_63 rfl ?_
    refine pw_aload_n eX6_removeInstruction_64 rfl ?_
    refine pw_getI eX6_removeInstruction_65 fl_X6_37 hs0.1 rfl ?_
    refine pw_icmp_ge (tgt := 127) eX6_removeInstruction_68 (by decide) (fun c => ?_) (fun c => ?_)
    · have h := hs_it c h
      exact pw_le (hk x1 x2 σ h) ⟨rfl, rfl, rfl, trivial⟩
    · have h := hs_ie c h
      refine pw_iload_n eX6_removeInstruction_71 rfl ?_
      refine pw_iload_n eX6_removeInstruction_72 rfl ?_
      refine pw_icmp_ge (tgt := 80) eX6_removeInstruction_73 (by decide) (fun c => ?_) (fun c => ?_)
      · have h := hs_it c h
        refine pw_iload_n eX6_removeInstruction_80 rfl ?_
        refine pw_iconst eX6_removeInstruction_81 ki_1 ?_
        refine pw_iadd eX6_removeInstruction_82 ?_
        exact w_X6_removeInstruction_83 hs0 ih x1 x2 x3 (x2 + 1) σ h
      · have h := hs_ie c h
        refine pw_iload_n eX6_removeInstruction_76 rfl ?_
        refine pw_goto (pc' := 83) eX6_removeInstruction_77 (by decide) ?_
        exact w_X6_removeInstruction_83 hs0 ih x1 x2 x3 x2 σ h
def f_X6_removeInstruction_53 (s0 : Nat) : Nat → Int32 → Int32 → HS → Option (Int32 × HS)
  | 0, _, _, _ => none
  | n + 1, x1, x2, σ =>
    if (σ.1 s0 5) ≤ x2 then
      (f_X6_clearNeedsFrom s0 (σ.1 s0 5) σ).bind fun σ2 =>
      some ((σ2.1 s0 5), σ2)
    else
      f_X6_removeInstruction_63 s0 (fun e7 e8 σ9 =>
        f_X6_removeInstruction_53 s0 n e7 (e8 + 1) σ9) FU x1 x2 0 σ
set_option maxRecDepth 20000 in
theorem w_X6_removeInstruction_53 {d : Nat} {s0 : Nat} (hs0 : hs_IsS s0) {p : Int32 × HS} : ∀ (n : Nat) (x1 : Int32) (x2 : Int32) (σ : HS), f_X6_removeInstruction_53 s0 n x1 x2 σ = some p → PW RX6 cX6_removeInstruction 6 (hs_zM (d + 3) (some .int) (some (.int p.1), p.2)) 53 [some (.ref s0), some (.int x1), some (.int x2), none, none, none] [] σ := by
  intro n
  induction n with
  | zero =>
    intro x1 x2 σ h
    rw [f_X6_removeInstruction_53] at h
    cases h
  | succ n ih =>
    intro x1 x2 σ h
    rw [f_X6_removeInstruction_53] at h
    refine pw_iload_n eX6_removeInstruction_53 rfl ?_
    refine pw_aload_n eX6_removeInstruction_54 rfl ?_
    refine pw_getI eX6_removeInstruction_55 fl_X6_37 hs0.1 rfl ?_
    refine pw_icmp_ge (tgt := 133) eX6_removeInstruction_58 (by decide) (fun c => ?_) (fun c => ?_)
    · have h := hs_it c h
      refine pw_aload_n eX6_removeInstruction_133 rfl ?_
      refine pw_aload_n eX6_removeInstruction_134 rfl ?_
      refine pw_getI eX6_removeInstruction_135 fl_X6_37 hs0.1 rfl ?_
      obtain ⟨σ2, g, h⟩ := hs_bind h
      refine pw_mV1v eX6_removeInstruction_138 mv_X6_61 hs0.1 (s_X6_clearNeedsFrom hs0 g) (Nat.le_of_ble_eq_true rfl) ?_
      refine pw_aload_n eX6_removeInstruction_141 rfl ?_
      refine pw_getI eX6_removeInstruction_142 fl_X6_37 hs0.1 rfl ?_
      exact pw_iret' eX6_removeInstruction_145 h
    · have h := hs_ie c h
      refine pw_iconst eX6_removeInstruction_61 ki_0 ?_
      refine pw_istore_n eX6_removeInstruction_62 rfl (by decide) rfl rfl ?_
      refine w_X6_removeInstruction_63 hs0 (fun e7 e8 σ9 h => ?_) FU x1 x2 0 σ h
      refine pw_iinc eX6_removeInstruction_127 (by decide) rfl ki_1 rfl rfl ?_
      refine pw_goto (pc' := 53) eX6_removeInstruction_130 (by decide) ?_
      exact ih e7 (e8 + 1) σ9 h
def f_X6_removeInstruction_23 (s0 : Nat) : Nat → Int32 → Int32 → HS → Option (Int32 × HS)
  | 0, _, _, _ => none
  | n + 1, x1, x2, σ =>
    if (σ.1 s0 5) ≤ x2 then
      f_X6_removeInstruction_53 s0 FU x1 0 σ
    else
      (ldI (σ.1 (s0 + 3)) 6 (x2 + 1)).bind fun v10 =>
      (stI σ (s0 + 3) 6 x2 v10).bind fun σ11 =>
      f_X6_removeInstruction_23 s0 n x1 (x2 + 1) σ11
set_option maxRecDepth 20000 in
theorem w_X6_removeInstruction_23 {d : Nat} {s0 : Nat} (hs0 : hs_IsS s0) {p : Int32 × HS} : ∀ (n : Nat) (x1 : Int32) (x2 : Int32) (σ : HS), f_X6_removeInstruction_23 s0 n x1 x2 σ = some p → PW RX6 cX6_removeInstruction 6 (hs_zM (d + 3) (some .int) (some (.int p.1), p.2)) 23 [some (.ref s0), some (.int x1), some (.int x2), none, none, none] [] σ := by
  intro n
  induction n with
  | zero =>
    intro x1 x2 σ h
    rw [f_X6_removeInstruction_23] at h
    cases h
  | succ n ih =>
    intro x1 x2 σ h
    rw [f_X6_removeInstruction_23] at h
    refine pw_iload_n eX6_removeInstruction_23 rfl ?_
    refine pw_aload_n eX6_removeInstruction_24 rfl ?_
    refine pw_getI eX6_removeInstruction_25 fl_X6_37 hs0.1 rfl ?_
    refine pw_icmp_ge (tgt := 51) eX6_removeInstruction_28 (by decide) (fun c => ?_) (fun c => ?_)
    · have h := hs_it c h
      refine pw_iconst eX6_removeInstruction_51 ki_0 ?_
      refine pw_istore_n eX6_removeInstruction_52 rfl (by decide) rfl rfl ?_
      exact w_X6_removeInstruction_53 hs0 FU x1 0 σ h
    · have h := hs_ie c h
      refine pw_aload_n eX6_removeInstruction_31 rfl ?_
      refine pw_getR (r := (s0 + 3)) eX6_removeInstruction_32 fl_X6_18 hs0.1 rfl ?_
      refine pw_iload_n eX6_removeInstruction_35 rfl ?_
      refine pw_aload_n eX6_removeInstruction_36 rfl ?_
      refine pw_getR (r := (s0 + 3)) eX6_removeInstruction_37 fl_X6_18 hs0.1 rfl ?_
      refine pw_iload_n eX6_removeInstruction_40 rfl ?_
      refine pw_iconst eX6_removeInstruction_41 ki_1 ?_
      refine pw_iadd eX6_removeInstruction_42 ?_
      obtain ⟨v10, g, h⟩ := hs_bind h
      refine pw_iald' eX6_removeInstruction_43 hs0.2.2.2.1 g ?_
      obtain ⟨σ11, g, h⟩ := hs_bind h
      refine pw_iast' eX6_removeInstruction_44 hs0.2.2.2.1 g ?_
      refine pw_iinc eX6_removeInstruction_45 (by decide) rfl ki_1 rfl rfl ?_
      refine pw_goto (pc' := 23) eX6_removeInstruction_48 (by decide) ?_
      exact ih x1 (x2 + 1) σ11 h
def f_X6_removeInstruction (s0 : Nat) (x1 : Int32) (σ : HS) : Option (Int32 × HS) :=
  (f_X6_hasInstruction s0 x1 σ).bind fun q1 =>
  if q1.1 = 0 then
    some ((-2), q1.2)
  else
    f_X6_removeInstruction_23 s0 FU x1 x1 (sI q1.2 s0 5 ((q1.2.1 s0 5) - 1))
set_option maxRecDepth 20000 in
theorem s_X6_removeInstruction {d : Nat} {s0 : Nat} (hs0 : hs_IsS s0) {x1 : Int32} {σ : HS} {p : Int32 × HS} (h : f_X6_removeInstruction s0 x1 σ = some p) : hs_Spec (d + 3) yX6_removeInstruction cX6_removeInstruction 6 (some .int) [.ref s0, .int x1] σ (some (.int p.1), p.2) := by
  refine hs_spec' (by decide +kernel) rfl (Nat.le_of_ble_eq_true rfl) ?_
  show PW RX6 cX6_removeInstruction 6 (hs_zM (d + 3) (some .int) (some (.int p.1), p.2)) 0 [some (.ref s0), some (.int x1), none, none, none, none] [] σ
  rw [f_X6_removeInstruction] at h
  refine pw_aload_n eX6_removeInstruction_0 rfl ?_
  refine pw_iload_n eX6_removeInstruction_1 rfl ?_
  obtain ⟨q1, g, h⟩ := hs_bind h
  refine pw_mV1i eX6_removeInstruction_2 mv_X6_50 hs0.1 (s_X6_hasInstruction hs0 g) (Nat.le_of_ble_eq_true rfl) ?_
  refine pw_if_ne (tgt := 11) eX6_removeInstruction_5 (by decide) (fun c => ?_) (fun c => ?_)
  · have h := hs_ie c h
    refine pw_aload_n eX6_removeInstruction_11 rfl ?_
    refine pw_dup eX6_removeInstruction_12 rfl ?_
    refine pw_getI eX6_removeInstruction_13 fl_X6_37 hs0.1 rfl ?_
    refine pw_iconst eX6_removeInstruction_16 ki_1 ?_
    refine pw_isub eX6_removeInstruction_17 ?_
    refine pw_putI eX6_removeInstruction_18 fw_X6_37 hs0.1 rfl ?_
    refine pw_iload_n eX6_removeInstruction_21 rfl ?_
    refine pw_istore_n eX6_removeInstruction_22 rfl (by decide) rfl rfl ?_
    exact w_X6_removeInstruction_23 hs0 FU x1 x1 (sI q1.2 s0 5 ((q1.2.1 s0 5) - 1)) h
  · have h := hs_it c h
    refine pw_bipush eX6_removeInstruction_8 kb_m2 ?_
    exact pw_iret' eX6_removeInstruction_10 h

def f_X6_copyFrom (s0 : Nat) (s1 : Nat) (σ : HS) : Option (HS) :=
  (cpI σ (s1 + 1) 5 (s0 + 1) 5 5).bind fun σ1 =>
  (cpI σ1 (s1 + 2) 5 (s0 + 2) 5 5).bind fun σ2 =>
  (cpI σ2 (s1 + 3) 6 (s0 + 3) 6 6).bind fun σ3 =>
  (cpI σ3 (s1 + 4) 36 (s0 + 4) 36 36).bind fun σ4 =>
  some (sI (sI (sI (sI σ4 s0 4 (σ4.1 s1 4)) s0 5 ((sI σ4 s0 4 (σ4.1 s1 4)).1 s1 5)) s0 6 ((sI (sI σ4 s0 4 (σ4.1 s1 4)) s0 5 ((sI σ4 s0 4 (σ4.1 s1 4)).1 s1 5)).1 s1 6)) s0 7 ((sI (sI (sI σ4 s0 4 (σ4.1 s1 4)) s0 5 ((sI σ4 s0 4 (σ4.1 s1 4)).1 s1 5)) s0 6 ((sI (sI σ4 s0 4 (σ4.1 s1 4)) s0 5 ((sI σ4 s0 4 (σ4.1 s1 4)).1 s1 5)).1 s1 6)).1 s1 7))
set_option maxRecDepth 20000 in
theorem s_X6_copyFrom {d : Nat} {s0 : Nat} (hs0 : hs_IsS s0) {s1 : Nat} (hs1 : hs_IsS s1) {σ : HS} {p : HS} (h : f_X6_copyFrom s0 s1 σ = some p) : hs_Spec (d + 1) yX6_copyFrom cX6_copyFrom 2 none [.ref s0, .ref s1] σ (none, p) := by
  refine hs_spec' (by decide +kernel) rfl (Nat.le_of_ble_eq_true rfl) ?_
  show PW RX6 cX6_copyFrom 2 (hs_zM (d + 1) none (none, p)) 0 [some (.ref s0), some (.ref s1)] [] σ
  rw [f_X6_copyFrom] at h
  refine pw_aload_n eX6_copyFrom_0 rfl ?_
  refine pw_getR (r := (s1 + 1)) eX6_copyFrom_1 fl_X6_9 hs1.1 rfl ?_
  refine pw_iconst eX6_copyFrom_4 ki_0 ?_
  refine pw_aload_n eX6_copyFrom_5 rfl ?_
  refine pw_getR (r := (s0 + 1)) eX6_copyFrom_6 fl_X6_9 hs0.1 rfl ?_
  refine pw_iconst eX6_copyFrom_9 ki_0 ?_
  refine pw_iconst eX6_copyFrom_10 ki_5 ?_
  obtain ⟨σ1, g, h⟩ := hs_bind h
  refine pw_copy' eX6_copyFrom_11 mc_X6_28 hs1.2.1 hs0.2.1 g (Nat.le_of_ble_eq_true rfl) ?_
  refine pw_aload_n eX6_copyFrom_14 rfl ?_
  refine pw_getR (r := (s1 + 2)) eX6_copyFrom_15 fl_X6_15 hs1.1 rfl ?_
  refine pw_iconst eX6_copyFrom_18 ki_0 ?_
  refine pw_aload_n eX6_copyFrom_19 rfl ?_
  refine pw_getR (r := (s0 + 2)) eX6_copyFrom_20 fl_X6_15 hs0.1 rfl ?_
  refine pw_iconst eX6_copyFrom_23 ki_0 ?_
  refine pw_iconst eX6_copyFrom_24 ki_5 ?_
  obtain ⟨σ2, g, h⟩ := hs_bind h
  refine pw_copy' eX6_copyFrom_25 mc_X6_28 hs1.2.2.1 hs0.2.2.1 g (Nat.le_of_ble_eq_true rfl) ?_
  refine pw_aload_n eX6_copyFrom_28 rfl ?_
  refine pw_getR (r := (s1 + 3)) eX6_copyFrom_29 fl_X6_18 hs1.1 rfl ?_
  refine pw_iconst eX6_copyFrom_32 ki_0 ?_
  refine pw_aload_n eX6_copyFrom_33 rfl ?_
  refine pw_getR (r := (s0 + 3)) eX6_copyFrom_34 fl_X6_18 hs0.1 rfl ?_
  refine pw_iconst eX6_copyFrom_37 ki_0 ?_
  refine pw_bipush eX6_copyFrom_38 kb_6 ?_
  obtain ⟨σ3, g, h⟩ := hs_bind h
  refine pw_copy' eX6_copyFrom_40 mc_X6_28 hs1.2.2.2.1 hs0.2.2.2.1 g (Nat.le_of_ble_eq_true rfl) ?_
  refine pw_aload_n eX6_copyFrom_43 rfl ?_
  refine pw_getR (r := (s1 + 4)) eX6_copyFrom_44 fl_X6_21 hs1.1 rfl ?_
  refine pw_iconst eX6_copyFrom_47 ki_0 ?_
  refine pw_aload_n eX6_copyFrom_48 rfl ?_
  refine pw_getR (r := (s0 + 4)) eX6_copyFrom_49 fl_X6_21 hs0.1 rfl ?_
  refine pw_iconst eX6_copyFrom_52 ki_0 ?_
  refine pw_bipush eX6_copyFrom_53 kb_36 ?_
  obtain ⟨σ4, g, h⟩ := hs_bind h
  refine pw_copy' eX6_copyFrom_55 mc_X6_28 hs1.2.2.2.2 hs0.2.2.2.2 g (Nat.le_of_ble_eq_true rfl) ?_
  refine pw_aload_n eX6_copyFrom_58 rfl ?_
  refine pw_aload_n eX6_copyFrom_59 rfl ?_
  refine pw_getI eX6_copyFrom_60 fl_X6_34 hs1.1 rfl ?_
  refine pw_putI eX6_copyFrom_63 fw_X6_34 hs0.1 rfl ?_
  refine pw_aload_n eX6_copyFrom_66 rfl ?_
  refine pw_aload_n eX6_copyFrom_67 rfl ?_
  refine pw_getI eX6_copyFrom_68 fl_X6_37 hs1.1 rfl ?_
  refine pw_putI eX6_copyFrom_71 fw_X6_37 hs0.1 rfl ?_
  refine pw_aload_n eX6_copyFrom_74 rfl ?_
  refine pw_aload_n eX6_copyFrom_75 rfl ?_
  refine pw_getI eX6_copyFrom_76 fl_X6_24 hs1.1 rfl ?_
  refine pw_putI eX6_copyFrom_79 fw_X6_24 hs0.1 rfl ?_
  refine pw_aload_n eX6_copyFrom_82 rfl ?_
  refine pw_aload_n eX6_copyFrom_83 rfl ?_
  refine pw_getI eX6_copyFrom_84 fl_X6_40 hs1.1 rfl ?_
  refine pw_putI eX6_copyFrom_87 fw_X6_40 hs0.1 rfl ?_
  exact pw_vret' eX6_copyFrom_90 h

def f_X6_instructionsOf_4 (s0 : Nat) : Nat → Int32 → Int32 → Int32 → HS → Option (Int32 × HS)
  | 0, _, _, _, _ => none
  | n + 1, x1, x2, x3, σ =>
    if (σ.1 s0 5) ≤ x3 then
      some (x2, σ)
    else
      (ldI (σ.1 (s0 + 3)) 6 x3).bind fun v1 =>
      if v1 = x1 then
        f_X6_instructionsOf_4 s0 n x1 (x2 + 1) (x3 + 1) σ
      else
        f_X6_instructionsOf_4 s0 n x1 x2 (x3 + 1) σ
set_option maxRecDepth 20000 in
theorem w_X6_instructionsOf_4 {d : Nat} {s0 : Nat} (hs0 : hs_IsS s0) {p : Int32 × HS} : ∀ (n : Nat) (x1 : Int32) (x2 : Int32) (x3 : Int32) (σ : HS), f_X6_instructionsOf_4 s0 n x1 x2 x3 σ = some p → PW RX6 cX6_instructionsOf 4 (hs_zM (d + 1) (some .int) (some (.int p.1), p.2)) 4 [some (.ref s0), some (.int x1), some (.int x2), some (.int x3)] [] σ := by
  intro n
  induction n with
  | zero =>
    intro x1 x2 x3 σ h
    rw [f_X6_instructionsOf_4] at h
    cases h
  | succ n ih =>
    intro x1 x2 x3 σ h
    rw [f_X6_instructionsOf_4] at h
    refine pw_iload_n eX6_instructionsOf_4 rfl ?_
    refine pw_aload_n eX6_instructionsOf_5 rfl ?_
    refine pw_getI eX6_instructionsOf_6 fl_X6_37 hs0.1 rfl ?_
    refine pw_icmp_ge (tgt := 31) eX6_instructionsOf_9 (by decide) (fun c => ?_) (fun c => ?_)
    · have h := hs_it c h
      refine pw_iload_n eX6_instructionsOf_31 rfl ?_
      exact pw_iret' eX6_instructionsOf_32 h
    · have h := hs_ie c h
      refine pw_aload_n eX6_instructionsOf_12 rfl ?_
      refine pw_getR (r := (s0 + 3)) eX6_instructionsOf_13 fl_X6_18 hs0.1 rfl ?_
      refine pw_iload_n eX6_instructionsOf_16 rfl ?_
      obtain ⟨v1, g, h⟩ := hs_bind h
      refine pw_iald' eX6_instructionsOf_17 hs0.2.2.2.1 g ?_
      refine pw_iload_n eX6_instructionsOf_18 rfl ?_
      refine pw_icmp_ne (tgt := 25) eX6_instructionsOf_19 (by decide) (fun c => ?_) (fun c => ?_)
      · have h := hs_ie c h
        refine pw_iinc eX6_instructionsOf_25 (by decide) rfl ki_1 rfl rfl ?_
        refine pw_goto (pc' := 4) eX6_instructionsOf_28 (by decide) ?_
        exact ih x1 x2 (x3 + 1) σ h
      · have h := hs_it c h
        refine pw_iinc eX6_instructionsOf_22 (by decide) rfl ki_1 rfl rfl ?_
        refine pw_iinc eX6_instructionsOf_25 (by decide) rfl ki_1 rfl rfl ?_
        refine pw_goto (pc' := 4) eX6_instructionsOf_28 (by decide) ?_
        exact ih x1 (x2 + 1) (x3 + 1) σ h
def f_X6_instructionsOf (s0 : Nat) (x1 : Int32) (σ : HS) : Option (Int32 × HS) :=
  f_X6_instructionsOf_4 s0 FU x1 0 0 σ
set_option maxRecDepth 20000 in
theorem s_X6_instructionsOf {d : Nat} {s0 : Nat} (hs0 : hs_IsS s0) {x1 : Int32} {σ : HS} {p : Int32 × HS} (h : f_X6_instructionsOf s0 x1 σ = some p) : hs_Spec (d + 1) yX6_instructionsOf cX6_instructionsOf 4 (some .int) [.ref s0, .int x1] σ (some (.int p.1), p.2) := by
  refine hs_spec' (by decide +kernel) rfl (Nat.le_of_ble_eq_true rfl) ?_
  show PW RX6 cX6_instructionsOf 4 (hs_zM (d + 1) (some .int) (some (.int p.1), p.2)) 0 [some (.ref s0), some (.int x1), none, none] [] σ
  rw [f_X6_instructionsOf] at h
  refine pw_iconst eX6_instructionsOf_0 ki_0 ?_
  refine pw_istore_n eX6_instructionsOf_1 rfl (by decide) rfl rfl ?_
  refine pw_iconst eX6_instructionsOf_2 ki_0 ?_
  refine pw_istore_n eX6_instructionsOf_3 rfl (by decide) rfl rfl ?_
  exact w_X6_instructionsOf_4 hs0 FU x1 0 0 σ h

def f_X6_needsOf_5 (s0 : Nat) : Nat → Int32 → Int32 → Int32 → Int32 → HS → Option (Int32 × HS)
  | 0, _, _, _, _, _ => none
  | n + 1, x1, x2, x3, x4, σ =>
    if (σ.1 s0 5) ≤ x4 then
      some (x3, σ)
    else
      (f_X8_pair x1 x4 σ).bind fun q1 =>
      (ldI (q1.2.1 (s0 + 4)) 36 q1.1).bind fun v2 =>
      if v2 = x2 then
        f_X6_needsOf_5 s0 n x1 x2 (x3 + 1) (x4 + 1) q1.2
      else
        f_X6_needsOf_5 s0 n x1 x2 x3 (x4 + 1) q1.2
set_option maxRecDepth 20000 in
theorem w_X6_needsOf_5 {d : Nat} {s0 : Nat} (hs0 : hs_IsS s0) {p : Int32 × HS} : ∀ (n : Nat) (x1 : Int32) (x2 : Int32) (x3 : Int32) (x4 : Int32) (σ : HS), f_X6_needsOf_5 s0 n x1 x2 x3 x4 σ = some p → PW RX6 cX6_needsOf 5 (hs_zM (d + 2) (some .int) (some (.int p.1), p.2)) 5 [some (.ref s0), some (.int x1), some (.int x2), some (.int x3), some (.int x4)] [] σ := by
  intro n
  induction n with
  | zero =>
    intro x1 x2 x3 x4 σ h
    rw [f_X6_needsOf_5] at h
    cases h
  | succ n ih =>
    intro x1 x2 x3 x4 σ h
    rw [f_X6_needsOf_5] at h
    refine pw_iload eX6_needsOf_5 rfl ?_
    refine pw_aload_n eX6_needsOf_7 rfl ?_
    refine pw_getI eX6_needsOf_8 fl_X6_37 hs0.1 rfl ?_
    refine pw_icmp_ge (tgt := 38) eX6_needsOf_11 (by decide) (fun c => ?_) (fun c => ?_)
    · have h := hs_it c h
      refine pw_iload_n eX6_needsOf_38 rfl ?_
      exact pw_iret' eX6_needsOf_39 h
    · have h := hs_ie c h
      refine pw_aload_n eX6_needsOf_14 rfl ?_
      refine pw_getR (r := (s0 + 4)) eX6_needsOf_15 fl_X6_21 hs0.1 rfl ?_
      refine pw_iload_n eX6_needsOf_18 rfl ?_
      refine pw_iload eX6_needsOf_19 rfl ?_
      obtain ⟨q1, g, h⟩ := hs_bind h
      refine pw_mN2i eX6_needsOf_21 mn_X6_57 (s_X8_pair g) (Nat.le_of_ble_eq_true rfl) ?_
      obtain ⟨v2, g, h⟩ := hs_bind h
      refine pw_iald' eX6_needsOf_24 hs0.2.2.2.2 g ?_
      refine pw_iload_n eX6_needsOf_25 rfl ?_
      refine pw_icmp_ne (tgt := 32) eX6_needsOf_26 (by decide) (fun c => ?_) (fun c => ?_)
      · have h := hs_ie c h
        refine pw_iinc eX6_needsOf_32 (by decide) rfl ki_1 rfl rfl ?_
        refine pw_goto (pc' := 5) eX6_needsOf_35 (by decide) ?_
        exact ih x1 x2 x3 (x4 + 1) q1.2 h
      · have h := hs_it c h
        refine pw_iinc eX6_needsOf_29 (by decide) rfl ki_1 rfl rfl ?_
        refine pw_iinc eX6_needsOf_32 (by decide) rfl ki_1 rfl rfl ?_
        refine pw_goto (pc' := 5) eX6_needsOf_35 (by decide) ?_
        exact ih x1 x2 (x3 + 1) (x4 + 1) q1.2 h
def f_X6_needsOf (s0 : Nat) (x1 : Int32) (x2 : Int32) (σ : HS) : Option (Int32 × HS) :=
  f_X6_needsOf_5 s0 FU x1 x2 0 0 σ
set_option maxRecDepth 20000 in
theorem s_X6_needsOf {d : Nat} {s0 : Nat} (hs0 : hs_IsS s0) {x1 : Int32} {x2 : Int32} {σ : HS} {p : Int32 × HS} (h : f_X6_needsOf s0 x1 x2 σ = some p) : hs_Spec (d + 2) yX6_needsOf cX6_needsOf 5 (some .int) [.ref s0, .int x1, .int x2] σ (some (.int p.1), p.2) := by
  refine hs_spec' (by decide +kernel) rfl (Nat.le_of_ble_eq_true rfl) ?_
  show PW RX6 cX6_needsOf 5 (hs_zM (d + 2) (some .int) (some (.int p.1), p.2)) 0 [some (.ref s0), some (.int x1), some (.int x2), none, none] [] σ
  rw [f_X6_needsOf] at h
  refine pw_iconst eX6_needsOf_0 ki_0 ?_
  refine pw_istore_n eX6_needsOf_1 rfl (by decide) rfl rfl ?_
  refine pw_iconst eX6_needsOf_2 ki_0 ?_
  refine pw_istore eX6_needsOf_3 (by decide) rfl rfl ?_
  exact w_X6_needsOf_5 hs0 FU x1 x2 0 0 σ h
