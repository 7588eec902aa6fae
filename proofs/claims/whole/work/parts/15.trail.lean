def f_X7_keep_34 (s1 : Nat) (t0 : Int32) (σ : HS) : Option (HS) :=
  if (5 : Int32) ≤ ((sI σ 11 1 t0).1 11 2) then
    some (sI σ 11 1 t0)
  else
    some (sI (sI σ 11 1 t0) 11 2 (((sI σ 11 1 t0).1 11 2) + 1))
set_option maxRecDepth 20000 in
theorem w_X7_keep_34 {d : Nat} {s1 : Nat} (hs1 : hs_IsS s1) {p : HS} : ∀ (t0 : Int32) (σ : HS), f_X7_keep_34 s1 t0 σ = some p → PW RX7 cX7_keep 2 (hs_zM (d + 2) none (none, p)) 34 [some (.ref 11), none] [.int t0, .ref 11] σ := by
  intro t0 σ h
  rw [f_X7_keep_34] at h
  refine pw_putI eX7_keep_34 fw_X7_18 ob_11 rfl ?_
  refine pw_aload_n eX7_keep_37 rfl ?_
  refine pw_getI eX7_keep_38 fl_X7_26 ob_11 rfl ?_
  refine pw_iconst eX7_keep_41 ki_5 ?_
  refine pw_icmp_ge (tgt := 55) eX7_keep_42 (by decide) (fun c => ?_) (fun c => ?_)
  · have h := hs_it c h
    exact pw_vret' eX7_keep_55 h
  · have h := hs_ie c h
    refine pw_aload_n eX7_keep_45 rfl ?_
    refine pw_dup eX7_keep_46 rfl ?_
    refine pw_getI eX7_keep_47 fl_X7_26 ob_11 rfl ?_
    refine pw_iconst eX7_keep_50 ki_1 ?_
    refine pw_iadd eX7_keep_51 ?_
    refine pw_putI eX7_keep_52 fw_X7_26 ob_11 rfl ?_
    exact pw_vret' eX7_keep_55 h
def f_X7_keep (s1 : Nat) (σ : HS) : Option (HS) :=
  (ldR 5 (σ.1 11 1)).bind fun v1 =>
  (f_X6_copyFrom (13 + 5 * v1) s1 σ).bind fun σ3 =>
  if (5 : Int32) ≤ ((σ3.1 11 1) + 1) then
    f_X7_keep_34 s1 0 σ3
  else
    f_X7_keep_34 s1 ((σ3.1 11 1) + 1) σ3
set_option maxRecDepth 20000 in
theorem s_X7_keep {d : Nat} {s1 : Nat} (hs1 : hs_IsS s1) {σ : HS} {p : HS} (h : f_X7_keep s1 σ = some p) : hs_Spec (d + 2) yX7_keep cX7_keep 2 none [.ref 11, .ref s1] σ (none, p) := by
  refine hs_spec' (by decide +kernel) rfl (Nat.le_of_ble_eq_true rfl) ?_
  show PW RX7 cX7_keep 2 (hs_zM (d + 2) none (none, p)) 0 [some (.ref 11), some (.ref s1)] [] σ
  rw [f_X7_keep] at h
  refine pw_aload_n eX7_keep_0 rfl ?_
  refine pw_getR (r := 12) eX7_keep_1 fl_X7_11 ob_11 rfl ?_
  refine pw_aload_n eX7_keep_4 rfl ?_
  refine pw_getI eX7_keep_5 fl_X7_18 ob_11 rfl ?_
  obtain ⟨v1, g2, h⟩ := hs_bind h
  refine pw_aald' eX7_keep_8 ar_12 g2 ?_
  refine pw_aload_n eX7_keep_9 rfl ?_
  obtain ⟨σ3, g, h⟩ := hs_bind h
  refine pw_mV1v eX7_keep_10 mv_X7_22 (is_kept (ldR_s g2).2.2).1 (s_X6_copyFrom (is_kept (ldR_s g2).2.2) hs1 g) (Nat.le_of_ble_eq_true rfl) ?_
  refine pw_aload_n eX7_keep_13 rfl ?_
  refine pw_aload_n eX7_keep_14 rfl ?_
  refine pw_getI eX7_keep_15 fl_X7_18 ob_11 rfl ?_
  refine pw_iconst eX7_keep_18 ki_1 ?_
  refine pw_iadd eX7_keep_19 ?_
  refine pw_iconst eX7_keep_20 ki_5 ?_
  refine pw_icmp_ge (tgt := 33) eX7_keep_21 (by decide) (fun c => ?_) (fun c => ?_)
  · have h := hs_it c h
    refine pw_iconst eX7_keep_33 ki_0 ?_
    exact pw_le (w_X7_keep_34 hs1 0 σ3 h) ⟨rfl, trivial⟩
  · have h := hs_ie c h
    refine pw_aload_n eX7_keep_24 rfl ?_
    refine pw_getI eX7_keep_25 fl_X7_18 ob_11 rfl ?_
    refine pw_iconst eX7_keep_28 ki_1 ?_
    refine pw_iadd eX7_keep_29 ?_
    refine pw_goto (pc' := 34) eX7_keep_30 (by decide) ?_
    exact pw_le (w_X7_keep_34 hs1 ((σ3.1 11 1) + 1) σ3 h) ⟨rfl, trivial⟩

def f_X7_takeInto_27 (s1 : Nat) (t0 : Int32) (σ : HS) : Option (Int32 × HS) :=
  (ldR 5 ((sI (sI σ 11 1 t0) 11 2 (((sI σ 11 1 t0).1 11 2) - 1)).1 11 1)).bind fun v1 =>
  (f_X6_copyFrom s1 (13 + 5 * v1) (sI (sI σ 11 1 t0) 11 2 (((sI σ 11 1 t0).1 11 2) - 1))).bind fun σ3 =>
  some (1, σ3)
set_option maxRecDepth 20000 in
theorem w_X7_takeInto_27 {d : Nat} {s1 : Nat} (hs1 : hs_IsS s1) {p : Int32 × HS} : ∀ (t0 : Int32) (σ : HS), f_X7_takeInto_27 s1 t0 σ = some p → PW RX7 cX7_takeInto 2 (hs_zM (d + 2) (some .boolean) (some (.int p.1), p.2)) 27 [some (.ref 11), some (.ref s1)] [.int t0, .ref 11] σ := by
  intro t0 σ h
  rw [f_X7_takeInto_27] at h
  refine pw_putI eX7_takeInto_27 fw_X7_18 ob_11 rfl ?_
  refine pw_aload_n eX7_takeInto_30 rfl ?_
  refine pw_dup eX7_takeInto_31 rfl ?_
  refine pw_getI eX7_takeInto_32 fl_X7_26 ob_11 rfl ?_
  refine pw_iconst eX7_takeInto_35 ki_1 ?_
  refine pw_isub eX7_takeInto_36 ?_
  refine pw_putI eX7_takeInto_37 fw_X7_26 ob_11 rfl ?_
  refine pw_aload_n eX7_takeInto_40 rfl ?_
  refine pw_aload_n eX7_takeInto_41 rfl ?_
  refine pw_getR (r := 12) eX7_takeInto_42 fl_X7_11 ob_11 rfl ?_
  refine pw_aload_n eX7_takeInto_45 rfl ?_
  refine pw_getI eX7_takeInto_46 fl_X7_18 ob_11 rfl ?_
  obtain ⟨v1, g2, h⟩ := hs_bind h
  refine pw_aald' eX7_takeInto_49 ar_12 g2 ?_
  obtain ⟨σ3, g, h⟩ := hs_bind h
  refine pw_mV1v eX7_takeInto_50 mv_X7_22 hs1.1 (s_X6_copyFrom hs1 (is_kept (ldR_s g2).2.2) g) (Nat.le_of_ble_eq_true rfl) ?_
  refine pw_iconst eX7_takeInto_53 ki_1 ?_
  exact pw_zret' eX7_takeInto_54 narrow_b1 h
def f_X7_takeInto (s1 : Nat) (σ : HS) : Option (Int32 × HS) :=
  if (0 : Int32) < (σ.1 11 2) then
    if (σ.1 11 1) ≤ 0 then
      f_X7_takeInto_27 s1 4 σ
    else
      f_X7_takeInto_27 s1 ((σ.1 11 1) - 1) σ
  else
    some (0, σ)
set_option maxRecDepth 20000 in
theorem s_X7_takeInto {d : Nat} {s1 : Nat} (hs1 : hs_IsS s1) {σ : HS} {p : Int32 × HS} (h : f_X7_takeInto s1 σ = some p) : hs_Spec (d + 2) yX7_takeInto cX7_takeInto 2 (some .boolean) [.ref 11, .ref s1] σ (some (.int p.1), p.2) := by
  refine hs_spec' (by decide +kernel) rfl (Nat.le_of_ble_eq_true rfl) ?_
  show PW RX7 cX7_takeInto 2 (hs_zM (d + 2) (some .boolean) (some (.int p.1), p.2)) 0 [some (.ref 11), some (.ref s1)] [] σ
  rw [f_X7_takeInto] at h
  refine pw_aload_n eX7_takeInto_0 rfl ?_
  refine pw_getI eX7_takeInto_1 fl_X7_26 ob_11 rfl ?_
  refine pw_if_gt (tgt := 9) eX7_takeInto_4 (by decide) (fun c => ?_) (fun c => ?_)
  · have h := hs_it c h
    refine pw_aload_n eX7_takeInto_9 rfl ?_
    refine pw_aload_n eX7_takeInto_10 rfl ?_
    refine pw_getI eX7_takeInto_11 fl_X7_18 ob_11 rfl ?_
    refine pw_if_le (tgt := 26) eX7_takeInto_14 (by decide) (fun c => ?_) (fun c => ?_)
    · have h := hs_it c h
      refine pw_iconst eX7_takeInto_26 ki_4 ?_
      exact w_X7_takeInto_27 hs1 4 σ h
    · have h := hs_ie c h
      refine pw_aload_n eX7_takeInto_17 rfl ?_
      refine pw_getI eX7_takeInto_18 fl_X7_18 ob_11 rfl ?_
      refine pw_iconst eX7_takeInto_21 ki_1 ?_
      refine pw_isub eX7_takeInto_22 ?_
      refine pw_goto (pc' := 27) eX7_takeInto_23 (by decide) ?_
      exact w_X7_takeInto_27 hs1 ((σ.1 11 1) - 1) σ h
  · have h := hs_ie c h
    refine pw_iconst eX7_takeInto_7 ki_0 ?_
    exact pw_zret' eX7_takeInto_8 narrow_b0 h
