-- rounds that part states, and signatures
def ldx (c : Cf) (p : SL) (s t : Nat) : Option Nat := (suc c (p.2 s) t).map (fun y => ixF p.2 y p.1)
def alk (c : Cf) (p : SL) (C : Nat → Nat) (s s' : Nat) : Bool := decide (C s = C s' ∧ ∀ t, t < c 0 + 1 → (ldx c p s t).map C = (ldx c p s' t).map C)
theorem alk_i (c : Cf) (p : SL) (C : Nat → Nat) (s s' : Nat) : alk c p C s s' = true ↔ C s = C s' ∧ ∀ t, t < c 0 + 1 → (ldx c p s t).map C = (ldx c p s' t).map C := by
  unfold alk; rw [decide_eq_true_eq]
theorem alk_E (c : Cf) (p : SL) (C : Nat → Nat) (n : Nat) : EQR (alk c p C) n := by
  refine ⟨fun i _ => (alk_i _ _ _ _ _).mpr ⟨rfl, fun _ _ => rfl⟩, fun i j _ _ h => ?_, fun i j k _ _ _ h h' => ?_⟩
  · have h := (alk_i _ _ _ _ _).mp h
    exact (alk_i _ _ _ _ _).mpr ⟨h.1.symm, fun t ht => (h.2 t ht).symm⟩
  · have h := (alk_i _ _ _ _ _).mp h
    have h' := (alk_i _ _ _ _ _).mp h'
    exact (alk_i _ _ _ _ _).mpr ⟨h.1.trans h'.1, fun t ht => (h.2 t ht).trans (h'.2 t ht)⟩
def CR (c : Cf) (p : SL) : Nat → (Nat → Nat) × Nat
  | 0 => (fun _ => 0, 1)
  | r + 1 => nuR (alk c p (CR c p r).1) p.1
theorem CR_eq (c : Cf) (p : SL) (r : Nat) {i j : Nat} (hi : i < p.1) (hj : j < p.1) : (CR c p (r + 1)).1 i = (CR c p (r + 1)).1 j ↔ alk c p (CR c p r).1 i j = true := by
  rw [CR]; exact nuR_eq (alk_E c p _ p.1) p.1 (Nat.le_refl _) i j hi hj
theorem LSt_ld {c : Cf} (w : WF c) (hp : (LSt c).1 ≤ 150) {s t y : Nat} (hs : s < (LSt c).1) (ht : t ≤ c 0) (h : suc c ((LSt c).2 s) t = some y) : ldx c (LSt c) s t = some (ixF (LSt c).2 y (LSt c).1) ∧ ixF (LSt c).2 y (LSt c).1 < (LSt c).1 ∧ (LSt c).2 (ixF (LSt c).2 y (LSt c).1) = y := by
  have h1 := LSt_cl w hp hs ht h
  refine ⟨by unfold ldx; rw [h]; rfl, h1, ixF_at _ h1⟩
/-- like signatures are never parted -/
theorem CR_keep {c : Cf} (w : WF c) (hp : (LSt c).1 ≤ 150) : ∀ r s s', s < (LSt c).1 → s' < (LSt c).1 → sgs c (LSt c) s = sgs c (LSt c) s' → (CR c (LSt c) r).1 s = (CR c (LSt c) r).1 s' := by
  have hg := LSt_GD w
  intro r
  induction r with
  | zero => intro s s' _ _ _; rfl
  | succ r ih =>
    intro s s' hs hs' h
    rw [CR_eq c _ r hs hs', alk_i]
    refine ⟨ih s s' hs hs' h, fun t ht => ?_⟩
    rcases sg_suc w (hg.2.1 s hs) (hg.2.1 s' hs') h (t := t) (by omega) with ⟨a, b⟩ | ⟨x', y', a, b, e⟩
    · unfold ldx; rw [a, b]
    · obtain ⟨a1, a2, a3⟩ := LSt_ld w hp hs (by omega) a
      obtain ⟨b1, b2, b3⟩ := LSt_ld w hp hs' (by omega) b
      rw [a1, b1, Option.map_some, Option.map_some]
      refine congrArg some (ih _ _ a2 b2 ?_)
      unfold sgs
      rw [a3, b3]; exact e
/-- a partition that keeps has like signatures in a part -/
theorem st_sg {c : Cf} (w : WF c) (hp : (LSt c).1 ≤ 150) {C : Nat → Nat} (hC : ∀ s s', s < (LSt c).1 → s' < (LSt c).1 → C s = C s' → alk c (LSt c) C s s' = true) {s s' : Nat} (hs : s < (LSt c).1) (hs' : s' < (LSt c).1) (h : C s = C s') : sgs c (LSt c) s = sgs c (LSt c) s' := by
  have key : ∀ t s s', s < (LSt c).1 → s' < (LSt c).1 → C s = C s' → ∀ k, k < c 0 → (psd ((LSt c).2 s) t &&& hm c k = 0 ↔ psd ((LSt c).2 s') t &&& hm c k = 0) := by
    intro t
    induction t with
    | zero =>
      intro s s' hs hs' h k hk
      have g := ((alk_i _ _ _ _ _).mp (hC s s' hs hs' h)).2 (k + 1) (by omega)
      show (LSt c).2 s &&& hm c k = 0 ↔ (LSt c).2 s' &&& hm c k = 0
      unfold ldx at g
      rw [suc, suc] at g
      by_cases e : (LSt c).2 s &&& hm c k = 0
      · by_cases e' : (LSt c).2 s' &&& hm c k = 0
        · exact ⟨fun _ => e', fun _ => e⟩
        · rw [if_pos e, if_neg e'] at g; cases g
      · by_cases e' : (LSt c).2 s' &&& hm c k = 0
        · rw [if_neg e, if_pos e'] at g; cases g
        · exact ⟨fun q => absurd q e, fun q => absurd q e'⟩
    | succ t ih =>
      intro s s' hs hs' h k hk
      have g := ((alk_i _ _ _ _ _).mp (hC s s' hs hs' h)).2 0 (by omega)
      obtain ⟨a1, a2, a3⟩ := LSt_ld w hp hs (t := 0) (by omega) rfl
      obtain ⟨b1, b2, b3⟩ := LSt_ld w hp hs' (t := 0) (by omega) rfl
      rw [a1, b1] at g
      have g' : C (ixF (LSt c).2 (psd ((LSt c).2 s) 1) (LSt c).1) = C (ixF (LSt c).2 (psd ((LSt c).2 s') 1) (LSt c).1) := Option.some.inj g
      have := ih _ _ a2 b2 g' k hk
      rw [a3, b3, psd_psd, psd_psd, Nat.add_comm] at this
      exact this
  unfold sgs
  rw [sg_eq w]
  exact fun t _ k hk => key t s s' hs hs' h k hk
