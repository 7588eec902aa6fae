def f_X8_passed_4 : Nat → Int32 → Int32 → Int32 → HS → Option (Int32 × HS)
  | 0, _, _, _, _ => none
  | n + 1, x1, x2, x3, σ =>
    if x1 ≤ x3 then
      some (x2, σ)
    else
      f_X8_passed_4 n x1 ((x2 >>> (1 &&& 31)) &&& 1911) (x3 + 1) σ
set_option maxRecDepth 20000 in
theorem w_X8_passed_4 {d : Nat} {p : Int32 × HS} : ∀ (n : Nat) (x1 : Int32) (x2 : Int32) (x3 : Int32) (σ : HS), f_X8_passed_4 n x1 x2 x3 σ = some p → PW RX8 cX8_passed 4 (hs_zM (d + 1) (some .int) (some (.int p.1), p.2)) 4 [none, some (.int x1), some (.int x2), some (.int x3)] [] σ := by
  intro n
  induction n with
  | zero =>
    intro x1 x2 x3 σ h
    rw [f_X8_passed_4] at h
    cases h
  | succ n ih =>
    intro x1 x2 x3 σ h
    rw [f_X8_passed_4] at h
    refine pw_iload_n eX8_passed_4 rfl ?_
    refine pw_iload_n eX8_passed_5 rfl ?_
    refine pw_icmp_ge (tgt := 23) eX8_passed_6 (by decide) (fun c => ?_) (fun c => ?_)
    · have h := hs_it c h
      refine pw_iload_n eX8_passed_23 rfl ?_
      exact pw_iret' eX8_passed_24 h
    · have h := hs_ie c h
      refine pw_iload_n eX8_passed_9 rfl ?_
      refine pw_iconst eX8_passed_10 ki_1 ?_
      refine pw_ishr eX8_passed_11 ?_
      refine pw_sipush eX8_passed_12 ks_1911 ?_
      refine pw_iand eX8_passed_15 ?_
      refine pw_istore_n eX8_passed_16 rfl (by decide) rfl rfl ?_
      refine pw_iinc eX8_passed_17 (by decide) rfl ki_1 rfl rfl ?_
      refine pw_goto (pc' := 4) eX8_passed_20 (by decide) ?_
      exact ih x1 ((x2 >>> (1 &&& 31)) &&& 1911) (x3 + 1) σ h
def f_X8_passed (x0 : Int32) (x1 : Int32) (σ : HS) : Option (Int32 × HS) :=
  f_X8_passed_4 FU x1 x0 0 σ
set_option maxRecDepth 20000 in
theorem s_X8_passed {d : Nat} {x0 : Int32} {x1 : Int32} {σ : HS} {p : Int32 × HS} (h : f_X8_passed x0 x1 σ = some p) : hs_Spec (d + 1) yX8_passed cX8_passed 4 (some .int) [.int x0, .int x1] σ (some (.int p.1), p.2) := by
  refine hs_spec' (by decide +kernel) rfl (Nat.le_of_ble_eq_true rfl) ?_
  show PW RX8 cX8_passed 4 (hs_zM (d + 1) (some .int) (some (.int p.1), p.2)) 0 [some (.int x0), some (.int x1), none, none] [] σ
  rw [f_X8_passed] at h
  refine pw_iload_n eX8_passed_0 rfl ?_
  refine pw_istore_n eX8_passed_1 rfl (by decide) rfl rfl ?_
  refine pw_iconst eX8_passed_2 ki_0 ?_
  refine pw_istore_n eX8_passed_3 rfl (by decide) rfl rfl ?_
  exact pw_le (w_X8_passed_4 FU x1 x0 0 σ h) ⟨rfl, rfl, rfl, trivial⟩

def f_X8_pair (x0 : Int32) (x1 : Int32) (σ : HS) : Option (Int32 × HS) :=
  some (((x0 * 6) + x1), σ)
set_option maxRecDepth 20000 in
theorem s_X8_pair {d : Nat} {x0 : Int32} {x1 : Int32} {σ : HS} {p : Int32 × HS} (h : f_X8_pair x0 x1 σ = some p) : hs_Spec (d + 1) yX8_pair cX8_pair 2 (some .int) [.int x0, .int x1] σ (some (.int p.1), p.2) := by
  refine hs_spec' (by decide +kernel) rfl (Nat.le_of_ble_eq_true rfl) ?_
  show PW RX8 cX8_pair 2 (hs_zM (d + 1) (some .int) (some (.int p.1), p.2)) 0 [some (.int x0), some (.int x1)] [] σ
  rw [f_X8_pair] at h
  refine pw_iload_n eX8_pair_0 rfl ?_
  refine pw_bipush eX8_pair_1 kb_6 ?_
  refine pw_imul eX8_pair_3 ?_
  refine pw_iload_n eX8_pair_4 rfl ?_
  refine pw_iadd eX8_pair_5 ?_
  exact pw_iret' eX8_pair_6 h

def f_X8_unitOf (x0 : Int32) (x1 : Int32) (σ : HS) : Option (Int32 × HS) :=
  some (((x0 >>> (((4 : Int32) * x1) &&& 31)) &&& 15), σ)
set_option maxRecDepth 20000 in
theorem s_X8_unitOf {d : Nat} {x0 : Int32} {x1 : Int32} {σ : HS} {p : Int32 × HS} (h : f_X8_unitOf x0 x1 σ = some p) : hs_Spec (d + 1) yX8_unitOf cX8_unitOf 2 (some .int) [.int x0, .int x1] σ (some (.int p.1), p.2) := by
  refine hs_spec' (by decide +kernel) rfl (Nat.le_of_ble_eq_true rfl) ?_
  show PW RX8 cX8_unitOf 2 (hs_zM (d + 1) (some .int) (some (.int p.1), p.2)) 0 [some (.int x0), some (.int x1)] [] σ
  rw [f_X8_unitOf] at h
  refine pw_iload_n eX8_unitOf_0 rfl ?_
  refine pw_iconst eX8_unitOf_1 ki_4 ?_
  refine pw_iload_n eX8_unitOf_2 rfl ?_
  refine pw_imul eX8_unitOf_3 ?_
  refine pw_ishr eX8_unitOf_4 ?_
  refine pw_bipush eX8_unitOf_5 kb_15 ?_
  refine pw_iand eX8_unitOf_7 ?_
  exact pw_iret' eX8_unitOf_8 h

def f_X8_powerOfTen_4 : Nat → Int32 → Int32 → Int32 → HS → Option (Int32 × HS)
  | 0, _, _, _, _ => none
  | n + 1, x0, x1, x2, σ =>
    if x0 ≤ x2 then
      some (x1, σ)
    else
      f_X8_powerOfTen_4 n x0 (x1 * 10) (x2 + 1) σ
set_option maxRecDepth 20000 in
theorem w_X8_powerOfTen_4 {d : Nat} {p : Int32 × HS} : ∀ (n : Nat) (x0 : Int32) (x1 : Int32) (x2 : Int32) (σ : HS), f_X8_powerOfTen_4 n x0 x1 x2 σ = some p → PW RX8 cX8_powerOfTen 3 (hs_zM (d + 1) (some .int) (some (.int p.1), p.2)) 4 [some (.int x0), some (.int x1), some (.int x2)] [] σ := by
  intro n
  induction n with
  | zero =>
    intro x0 x1 x2 σ h
    rw [f_X8_powerOfTen_4] at h
    cases h
  | succ n ih =>
    intro x0 x1 x2 σ h
    rw [f_X8_powerOfTen_4] at h
    refine pw_iload_n eX8_powerOfTen_4 rfl ?_
    refine pw_iload_n eX8_powerOfTen_5 rfl ?_
    refine pw_icmp_ge (tgt := 20) eX8_powerOfTen_6 (by decide) (fun c => ?_) (fun c => ?_)
    · have h := hs_it c h
      refine pw_iload_n eX8_powerOfTen_20 rfl ?_
      exact pw_iret' eX8_powerOfTen_21 h
    · have h := hs_ie c h
      refine pw_iload_n eX8_powerOfTen_9 rfl ?_
      refine pw_bipush eX8_powerOfTen_10 kb_10 ?_
      refine pw_imul eX8_powerOfTen_12 ?_
      refine pw_istore_n eX8_powerOfTen_13 rfl (by decide) rfl rfl ?_
      refine pw_iinc eX8_powerOfTen_14 (by decide) rfl ki_1 rfl rfl ?_
      refine pw_goto (pc' := 4) eX8_powerOfTen_17 (by decide) ?_
      exact ih x0 (x1 * 10) (x2 + 1) σ h
def f_X8_powerOfTen (x0 : Int32) (σ : HS) : Option (Int32 × HS) :=
  f_X8_powerOfTen_4 FU x0 1 0 σ
set_option maxRecDepth 20000 in
theorem s_X8_powerOfTen {d : Nat} {x0 : Int32} {σ : HS} {p : Int32 × HS} (h : f_X8_powerOfTen x0 σ = some p) : hs_Spec (d + 1) yX8_powerOfTen cX8_powerOfTen 3 (some .int) [.int x0] σ (some (.int p.1), p.2) := by
  refine hs_spec' (by decide +kernel) rfl (Nat.le_of_ble_eq_true rfl) ?_
  show PW RX8 cX8_powerOfTen 3 (hs_zM (d + 1) (some .int) (some (.int p.1), p.2)) 0 [some (.int x0), none, none] [] σ
  rw [f_X8_powerOfTen] at h
  refine pw_iconst eX8_powerOfTen_0 ki_1 ?_
  refine pw_istore_n eX8_powerOfTen_1 rfl (by decide) rfl rfl ?_
  refine pw_iconst eX8_powerOfTen_2 ki_0 ?_
  refine pw_istore_n eX8_powerOfTen_3 rfl (by decide) rfl rfl ?_
  exact w_X8_powerOfTen_4 FU x0 1 0 σ h
