-- states, classes, state, alike: the class's calls
theorem LSt_cl {c : Cf} (w : WF c) (hp : (LSt c).1 ≤ 150) {s t y : Nat} (hs : s < (LSt c).1) (ht : t ≤ c 0) (h : suc c ((LSt c).2 s) t = some y) : ixF (LSt c).2 y (LSt c).1 < (LSt c).1 := by
  obtain ⟨σ', _, _, _, a4⟩ := m_findStates w (σ := (fun _ k => nI (c k), fun _ _ => 0)) (fun k _ => rfl)
  rcases a4 hp s t hs ht hp with ⟨e, _⟩ | ⟨y', e1, e2, _⟩
  · rw [e] at h; cases h
  · rw [e1, Option.some.injEq] at h
    rw [← h]; exact e2
theorem c_okv {n : Nat} (h : n < 2147483648) (σ : HS) : f_X8_counted (nI n) σ = some (nI n, σ) := by
  rw [f_X8_counted, if_pos (by rw [z_ltI, z_ti h]; show (-2 : Int) < n; omega)]
theorem ncl_le (c : Cf) (p : SL) (n : Nat) : ncl c p n ≤ n := fb_ct_le _ n
theorem LSt_GD {c : Cf} (w : WF c) : GD (LSt c) := exS_GD w 151
abbrev lC : List Nat := [38, 39, 40, 41, 66]
def aSts (a : AS) : Int32 × AS := if (LSt (aC a)).1 ≤ 150 then (nI (LSt (aC a)).1, a) else (-5, aRef 3 a)
def aCls (a : AS) : Int32 × AS := if (LSt (aC a)).1 ≤ 150 then (nI (ncl (aC a) (LSt (aC a)) (LSt (aC a)).1), a) else (-5, aRef 3 a)
theorem KCc.fr {c : Cf} {σ σ' : HS} (h : KCc c σ) {l : List Nat} (hf : fr l σ σ') (hl : ∀ o, o ∈ l → o < 38 ∨ 41 < o) : KCc c σ' := by
  have g : ∀ o, 38 ≤ o → o ≤ 41 → σ'.1 o = σ.1 o := fun o h1 h2 => hf o (fun q => by have := hl o q; omega)
  unfold KCc CB COK LC
  rw [g 38 (by omega) (by omega), g 39 (by omega) (by omega), g 40 (by omega) (by omega), g 41 (by omega) (by omega)]
  exact h
theorem c_much {a : AS} {σ : HS} (h : IC a σ) (hk : KCc (aC a) σ) {r : Int32} {k : Nat} (hr : r = -2 ∨ r = -3 ∨ r = -4 ∨ r = -5) (hk' : (-2 - r).toNatClampNeg = k) : ∃ σ', ((f_X8_counted r σ).bind fun q => some (q.1, q.2)) = some (r, σ') ∧ IC (aRef k a) σ' ∧ aC (aRef k a) = aC a ∧ KCc (aC a) σ' ∧ fr lC σ σ' := by
  obtain ⟨σ', e1, e2, e3⟩ := c_ref h hr hk'
  exact ⟨σ', e1, e2, rfl, hk.fr e3 (by simp), e3.up (by simp)⟩
theorem c_states {a : AS} {σ : HS} (h : IC a σ) (w : WA a) (hk : KCc (aC a) σ) : ∃ σ', f_X8_states σ = some ((aSts a).1, σ') ∧ IC (aSts a).2 σ' ∧ aC (aSts a).2 = aC a ∧ KCc (aC a) σ' ∧ fr lC σ σ' := by
  have hg := (LSt_GD w.1).1
  obtain ⟨σ1, a1, a2, a3, a4⟩ := c_chart w.1 h.1 hk
  have h1 := h.fr a2 (by simp)
  rw [f_X8_states, a1, z_bi, f_X1_statesOrMuch, a3.1.2.1, a3.1.1]
  unfold aSts
  by_cases e : (LSt (aC a)).1 ≤ 150
  · rw [if_neg (show ¬ (LSt (aC a)).1 = 151 by omega), if_pos (show nI 0 = (0 : Int32) from rfl), z_bi, if_pos e, show mn (LSt (aC a)).1 = (LSt (aC a)).1 by unfold mn; omega, c_okv (by omega), z_bi]
    exact ⟨σ1, rfl, h1, rfl, a4, a2.up (by simp)⟩
  · rw [if_pos (show (LSt (aC a)).1 = 151 by omega), if_neg (show ¬ nI 1 = 0 by decide), z_bi, if_neg e]
    obtain ⟨σ', e1, e2, e3, e4, e5⟩ := c_much h1 a4 (r := -5) (Or.inr (Or.inr (Or.inr rfl))) (k := 3) (by decide)
    exact ⟨σ', e1, e2, e3, e4, (a2.up (by simp)).tr e5⟩
theorem c_classes {a : AS} {σ : HS} (h : IC a σ) (w : WA a) (hk : KCc (aC a) σ) : ∃ σ', f_X8_classes σ = some ((aCls a).1, σ') ∧ IC (aCls a).2 σ' ∧ aC (aCls a).2 = aC a ∧ KCc (aC a) σ' ∧ fr lC σ σ' := by
  have hg := (LSt_GD w.1).1
  obtain ⟨σ1, a1, a2, a3, a4⟩ := c_chart w.1 h.1 hk
  have h1 := h.fr a2 (by simp)
  rw [f_X8_classes, a1, z_bi, f_X1_classesOrMuch, a3.1.2.1]
  unfold aCls
  by_cases e : (LSt (aC a)).1 ≤ 150
  · have hl := ncl_le (aC a) (LSt (aC a)) (LSt (aC a)).1
    rw [if_neg (show ¬ (LSt (aC a)).1 = 151 by omega), if_pos (show nI 0 = (0 : Int32) from rfl), z_bi, if_pos e, (a3.2 e).1, c_okv (by omega), z_bi]
    exact ⟨σ1, rfl, h1, rfl, a4, a2.up (by simp)⟩
  · rw [if_pos (show (LSt (aC a)).1 = 151 by omega), if_neg (show ¬ nI 1 = 0 by decide), z_bi, if_neg e]
    obtain ⟨σ', e1, e2, e3, e4, e5⟩ := c_much h1 a4 (r := -5) (Or.inr (Or.inr (Or.inr rfl))) (k := 3) (by decide)
    exact ⟨σ', e1, e2, e3, e4, (a2.up (by simp)).tr e5⟩
def vSt (c : Cf) (s x : Nat) : Int32 := if x < 3 then nI ((LSt c).2 s >>> (4 * x) &&& 15) else (suc c ((LSt c).2 s) (x - 3)).elim (-1) (fun y => nI (ixF (LSt c).2 y (LSt c).1))
theorem c_stateFact {c : Cf} (w : WF c) {σ : HS} (hs : SR c 1 σ) (ho : COK c σ) (hp : (LSt c).1 ≤ 150) {s x : Nat} (hs' : s < (LSt c).1) (hx : x ≤ 3 + c 0) : f_X1_stateFact 1 (nI s) (nI x) σ = some (vSt c s x, σ) := by
  have hk := w.p_k
  have hg := LSt_GD w
  have hF := hg.2.1 s hs'
  have em : mn (LSt c).1 = (LSt c).1 := by unfold mn; omega
  have pl : ∀ t y, t ≤ c 0 → suc c ((LSt c).2 s) t = some y → y < 4096 ∧ σ.1 41 y - 1 = nI (ixF (LSt c).2 y (LSt c).1) := by
    intro t y ht hy
    have hb := suc_b w hF ht hy
    have hi := LSt_cl w hp hs' ht hy
    refine ⟨hb, ?_⟩
    rw [ho.1.2.2.2 y hb, em, if_pos hi]
    show nI (_ + 1) - nI 1 = _
    rw [z_sub (by omega), Nat.add_sub_cancel]
  rw [f_X1_stateFact, z_ld (by omega) (by omega), z_bi, ho.1.2.2.1 s (by omega)]
  unfold vSt
  by_cases e : x < 3
  · rw [if_neg (by rw [z_lit, z_le (by omega) (by omega)]; omega), if_pos e, c_unitOf (by omega) e, z_bi]
  · rw [if_pos (by rw [z_lit, z_le (by omega) (by omega)]; omega), if_neg e]
    by_cases e3 : x = 3
    · have := pl 0 (psd ((LSt c).2 s) 1) (by omega) rfl
      rw [if_pos (by rw [e3]; rfl), e3]
      show ((f_X8_passed (nI ((LSt c).2 s)) (nI 1) σ).bind fun q4 => (ldI (q4.2.1 41) 4096 q4.1).bind fun v5 => some (v5 - 1, q4.2)) = _
      rw [c_passed hF (by omega), z_bi, z_ld (by omega) (by omega), z_bi, this.2]; rfl
    · obtain ⟨k, rfl⟩ : ∃ k, x = k + 4 := ⟨x - 4, by omega⟩
      have hb := hm_b w (show k < c 0 by omega)
      have bo := or_b hF hb
      have ba : (LSt c).2 s &&& hm c k ≤ hm c k := Nat.and_le_right
      rw [if_neg (by rw [z_lit, z_eq (by omega) (by omega)]; omega), show nI (k + 4) - 3 - 1 = nI k by
        show nI (k + 4) - nI 3 - nI 1 = _
        rw [z_sub (by omega), z_sub (by omega)]; rfl, z_ld (by omega) (by omega), z_bi, hs.q_h k (by omega), z_and, z_or, show k + 4 - 3 = k + 1 by omega, z_ld (by omega) (by omega), z_bi]
      by_cases g : (LSt c).2 s &&& hm c k = 0
      · have su : suc c ((LSt c).2 s) (k + 1) = some ((LSt c).2 s ||| hm c k) := by rw [suc, if_pos g]
        rw [if_pos (by rw [g]; rfl), su, (pl (k + 1) _ (by omega) su).2]; rfl
      · have su : suc c ((LSt c).2 s) (k + 1) = none := by rw [suc, if_neg g]
        rw [if_neg (by rw [z_0, z_eq (by omega) (by omega)]; exact g), su]; rfl
