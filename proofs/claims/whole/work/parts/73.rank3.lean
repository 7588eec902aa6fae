-- the class's turns by ranks
def mtv : Nat → Int32
  | 0 => -1
  | t + 1 => nI t
theorem mtv_0 {s : Nat} (hs : s < 1000) : mtv s = -1 ↔ s = 0 := by
  cases s with
  | zero => simp [mtv]
  | succ s => simp only [mtv]; exact ⟨fun h => absurd h (z_ne (by omega) (k := 1) (by omega)), fun h => by omega⟩
theorem mtv_s {s : Nat} (h : s ≠ 0) : mtv s = nI (s - 1) := by
  cases s with
  | zero => exact absurd rfl h
  | succ s => rfl
def TMv (o : Nat) (c : Cf) (S : Nat → Nat) (σ : HS) : Prop := ∀ j, j < c 23 → S j ≤ 40 ∧ σ.1 o j = mtv (S j)
theorem c_rkReady {c : Cf} (w : WF c) {σ : HS} (hb : BOK c σ) {S : Nat → Nat} (hS : TMv 51 c S σ) {x now : Nat} (hx : x < c 23) (hw : now ≤ 40) : f_X2_isReady (nI x) (nI now) σ = some (nI (b2 (rdb c S x now)), σ) := by
  have hn := w.p_n
  have key : ∀ j, j ≤ c 23 → ∀ n, c 23 < j + n → ∃ v, v ≤ 1 ∧ f_X2_isReady_3 n (nI x) (nI now) (nI j) σ = some (nI v, σ) ∧ (v = 1 ↔ ∀ j', j ≤ j' → j' < c 23 → (ct c x j' = 0 ∨ (S j' ≠ 0 ∧ S j' - 1 + dd c x j' ≤ now))) := by
    refine dn_ind ?_ ?_
    · intro n hn'
      obtain ⟨n, rfl⟩ : ∃ m, n = m + 1 := ⟨n - 1, by omega⟩
      refine ⟨1, by omega, ?_, ⟨fun _ j' _ _ => by omega, fun _ => rfl⟩⟩
      rw [f_X2_isReady_3, hb.1, if_pos (by rw [z_le (by omega) (by omega)]; omega)]
      rfl
    · intro j hj ih n hn'
      obtain ⟨n, rfl⟩ : ∃ m, n = m + 1 := ⟨n - 1, by omega⟩
      obtain ⟨s1, s2⟩ := hS j hj
      have hd := dd_le w (i := x) hj
      have good : (ct c x j = 0 ∨ (S j ≠ 0 ∧ S j - 1 + dd c x j ≤ now)) → ∃ v, v ≤ 1 ∧ f_X2_isReady_3 n (nI x) (nI now) (nI j + 1) σ = some (nI v, σ) ∧ (v = 1 ↔ ∀ j', j ≤ j' → j' < c 23 → (ct c x j' = 0 ∨ (S j' ≠ 0 ∧ S j' - 1 + dd c x j' ≤ now))) := by
        intro g
        obtain ⟨v, v1, v2, v3⟩ := ih n (by omega)
        refine ⟨v, v1, by rw [show (1 : Int32) = nI 1 from rfl, z_add]; exact v2, ?_⟩
        rw [v3]
        exact ⟨fun h j' q1 q2 => by
          by_cases e : j' = j
          · rw [e]; exact g
          · exact h j' (by omega) q2, fun h j' q1 q2 => h j' (by omega) q2⟩
      have bad : ¬ (ct c x j = 0 ∨ (S j ≠ 0 ∧ S j - 1 + dd c x j ≤ now)) → ∃ v, v ≤ 1 ∧ some ((0 : Int32), σ) = some (nI v, σ) ∧ (v = 1 ↔ ∀ j', j ≤ j' → j' < c 23 → (ct c x j' = 0 ∨ (S j' ≠ 0 ∧ S j' - 1 + dd c x j' ≤ now))) := fun g => ⟨0, by omega, rfl, ⟨fun q => by omega, fun q => absurd (q j (by omega) hj) g⟩⟩
      rw [f_X2_isReady_3, hb.1, if_neg (by rw [z_le (by omega) (by omega)]; omega), c_pair, z_bi, z_ld (by omega) (by omega), z_bi, hb.2.2.2.2.2.2.1 x j hx hj]
      unfold dv
      by_cases e : ct c x j = 0
      · rw [if_pos e, if_pos (show (-nI 1 : Int32) = -1 from rfl)]
        exact good (Or.inl e)
      · rw [if_neg e, if_neg (show ¬ nI (dd c x j) = -1 from z_ne (by omega) (k := 1) (by omega)), z_ld (by omega) (by omega), z_bi, s2]
        by_cases z : S j = 0
        · rw [if_pos ((mtv_0 (by omega)).mpr z)]
          exact bad (fun q => by rcases q with q | q <;> omega)
        · rw [if_neg (fun q => z ((mtv_0 (by omega)).mp q)), z_bi, mtv_s z, z_add]
          by_cases g : S j - 1 + dd c x j ≤ now
          · rw [if_pos (by rw [z_le (by omega) (by omega)]; exact g)]
            exact good (Or.inr ⟨z, g⟩)
          · rw [if_neg (by rw [z_le (by omega) (by omega)]; exact g)]
            exact bad (fun q => by rcases q with q | q <;> omega)
  obtain ⟨v, v1, v2, v3⟩ := key 0 (by omega) FU (by have := FU_b; omega)
  rw [show nI 0 = (0 : Int32) from rfl] at v2
  rw [f_X2_isReady, v2]
  congr 3
  unfold rdb b2
  by_cases q : v = 1
  · rw [if_pos (by rw [decide_eq_true_eq]; exact fun j hj => v3.mp q j (by omega) hj), q]
  · rw [if_neg (by rw [decide_eq_true_eq]; exact fun h => q (v3.mpr (fun j _ hj => h j hj)))]; omega
theorem c_rkFree {c : Cf} (w : WF c) {σ : HS} (hb : BOK c σ) {S : Nat → Nat} (hS : TMv 51 c S σ) {x now : Nat} (hx : x < c 23) (hw : now ≤ 40) : f_X2_isFree (nI x) (nI now) σ = some (nI (b2 (frb c S x now)), σ) := by
  have hn := w.p_n
  have key : ∀ j, j ≤ c 23 → ∀ n, c 23 < j + n → ∃ v, v ≤ 1 ∧ f_X2_isFree_3 n (nI x) (nI now) (nI j) σ = some (nI v, σ) ∧ (v = 1 ↔ ∀ j', j ≤ j' → j' < c 23 → (S j' = 0 ∨ clb c j' (S j' - 1) x now = false)) := by
    refine dn_ind ?_ ?_
    · intro n hn'
      obtain ⟨n, rfl⟩ : ∃ m, n = m + 1 := ⟨n - 1, by omega⟩
      refine ⟨1, by omega, ?_, ⟨fun _ j' _ _ => by omega, fun _ => rfl⟩⟩
      rw [f_X2_isFree_3, hb.1, if_pos (by rw [z_le (by omega) (by omega)]; omega)]
      rfl
    · intro j hj ih n hn'
      obtain ⟨n, rfl⟩ : ∃ m, n = m + 1 := ⟨n - 1, by omega⟩
      obtain ⟨s1, s2⟩ := hS j hj
      have good : (S j = 0 ∨ clb c j (S j - 1) x now = false) → ∃ v, v ≤ 1 ∧ f_X2_isFree_3 n (nI x) (nI now) (nI j + 1) σ = some (nI v, σ) ∧ (v = 1 ↔ ∀ j', j ≤ j' → j' < c 23 → (S j' = 0 ∨ clb c j' (S j' - 1) x now = false)) := by
        intro g
        obtain ⟨v, v1, v2, v3⟩ := ih n (by omega)
        refine ⟨v, v1, by rw [show (1 : Int32) = nI 1 from rfl, z_add]; exact v2, ?_⟩
        rw [v3]
        exact ⟨fun h j' q1 q2 => by
          by_cases e : j' = j
          · rw [e]; exact g
          · exact h j' (by omega) q2, fun h j' q1 q2 => h j' (by omega) q2⟩
      rw [f_X2_isFree_3, hb.1, if_neg (by rw [z_le (by omega) (by omega)]; omega), z_ld (by omega) (by omega), z_bi, s2]
      by_cases z : S j = 0
      · rw [if_pos ((mtv_0 (by omega)).mpr z)]
        exact good (Or.inl z)
      · rw [if_neg (fun q => z ((mtv_0 (by omega)).mp q)), z_bi, mtv_s z, c_clashes hb w hj hx (by omega) (by omega), z_bi]
        cases q : clb c j (S j - 1) x now with
        | false =>
          rw [if_pos (show nI (b2 false) = 0 from rfl)]
          exact good (Or.inr q)
        | true =>
          rw [if_neg (show ¬ nI (b2 true) = 0 by decide)]
          refine ⟨0, by omega, rfl, ⟨fun q => by omega, fun h => ?_⟩⟩
          rcases h j (by omega) hj with g | g
          · exact absurd g z
          · rw [q] at g; cases g
  obtain ⟨v, v1, v2, v3⟩ := key 0 (by omega) FU (by have := FU_b; omega)
  rw [show nI 0 = (0 : Int32) from rfl] at v2
  rw [f_X2_isFree, v2]
  congr 3
  unfold frb b2
  by_cases q : v = 1
  · rw [if_pos (by rw [decide_eq_true_eq]; exact fun j hj => v3.mp q j (by omega) hj), q]
  · rw [if_neg (by rw [decide_eq_true_eq]; exact fun h => q (v3.mpr (fun j _ hj => h j hj)))]; omega
theorem bgF_le {c : Cf} (O : Nat → Nat) (now : Nat) (S : Nat → Nat) : ∀ p, (bgF c O now S p).2 ≤ p := by
  intro p
  induction p with
  | zero => exact Nat.le_refl _
  | succ p ih =>
    rw [bgF]; unfold stp
    split
    · show _ + 1 ≤ _; omega
    · omega
theorem bgF_stop {c : Cf} (O : Nat → Nat) (now : Nat) (S : Nat → Nat) {p : Nat} (h : c 21 ≤ (bgF c O now S p).2) : ∀ d, bgF c O now S (p + d) = bgF c O now S p := by
  intro d
  induction d with
  | zero => rfl
  | succ d ih =>
    rw [show p + (d + 1) = p + d + 1 by omega, bgF, ih, stp, if_neg]
    exact fun q => by omega
theorem TMv.st {o : Nat} {c : Cf} {S : Nat → Nat} {σ : HS} (h : TMv o c S σ) {v now : Nat} (hw : now < 40) : TMv o c (un S v (now + 1)) (sI σ o v (nI now)) := by
  intro j hj
  rw [s_I1]; unfold un upd
  by_cases e : j = v
  · rw [if_pos e, if_pos e]; exact ⟨by omega, rfl⟩
  · rw [if_neg e, if_neg e]; exact h j hj
theorem c_beginAt {c : Cf} (w : WF c) {O : Nat → Nat} (hO : ∀ j, j < c 23 → O j < c 23) {S : Nat → Nat} {now : Nat} (hw : now < 40) {σ : HS} (hb : BOK c σ) (h2 : ∀ j, j < c 23 → σ.1 52 j = nI (O j)) (hS : TMv 51 c S σ) : ∃ σ', f_X2_beginAt (nI now) σ = some (nI (bgF c O now S (c 23)).2, σ') ∧ fr [51] σ σ' ∧ TMv 51 c (bgF c O now S (c 23)).1 σ' := by
  have hn := w.p_n
  have hwd := w.p_wd
  have key : ∀ p, p ≤ c 23 → ∀ n, c 23 < p + n → ∀ σ : HS, BOK c σ → (∀ j, j < c 23 → σ.1 52 j = nI (O j)) → TMv 51 c (bgF c O now S p).1 σ → ∃ σ', f_X2_beginAt_5 n (nI now) (nI (bgF c O now S p).2) (nI p) σ = some (nI (bgF c O now S (c 23)).2, σ') ∧ fr [51] σ σ' ∧ TMv 51 c (bgF c O now S (c 23)).1 σ' := by
    refine dn_ind ?_ ?_
    · intro n hn' σ hb h2 hS
      obtain ⟨n, rfl⟩ : ∃ m, n = m + 1 := ⟨n - 1, by omega⟩
      refine ⟨σ, ?_, fr.rf _ _, hS⟩
      rw [f_X2_beginAt_5, hb.1, if_pos (by rw [z_le (by omega) (by omega)]; omega)]
    · intro p hp ih n hn' σ hb h2 hS
      obtain ⟨n, rfl⟩ : ∃ m, n = m + 1 := ⟨n - 1, by omega⟩
      have hl := bgF_le (c := c) O now S p
      have hv := hO p hp
      have ih := ih n (by omega)
      rw [bgF] at ih
      generalize hB : bgF c O now S p = B at ih hS hl
      have no : ¬ (B.1 (O p) = 0 ∧ B.2 < c 21 ∧ rdb c B.1 (O p) now = true ∧ frb c B.1 (O p) now = true) → ∃ σ', f_X2_beginAt_5 n (nI now) (nI B.2) (nI p + 1) σ = some (nI (bgF c O now S (c 23)).2, σ') ∧ fr [51] σ σ' ∧ TMv 51 c (bgF c O now S (c 23)).1 σ' := by
        intro g
        rw [stp, if_neg g] at ih
        rw [show (1 : Int32) = nI 1 from rfl, z_add]
        exact ih σ hb h2 hS
      rw [f_X2_beginAt_5, hb.1, if_neg (by rw [z_le (by omega) (by omega)]; omega), hb.2.1]
      by_cases e : c 21 ≤ B.2
      · rw [if_pos (by rw [z_le (by omega) (by omega)]; exact e)]
        have := bgF_stop O now S (p := p) (by rw [hB]; exact e) (c 23 - p)
        rw [show p + (c 23 - p) = c 23 by omega, hB] at this
        rw [this]
        exact ⟨σ, rfl, fr.rf _ _, hS⟩
      · rw [if_neg (by rw [z_le (by omega) (by omega)]; exact e), z_ld (by omega) (by omega), z_bi, h2 p hp, z_ld (by omega) (by omega), z_bi, (hS _ hv).2]
        have hs := (hS _ hv).1
        by_cases z : B.1 (O p) = 0
        · rw [if_pos ((mtv_0 (by omega)).mpr z), c_rkReady w hb hS hv (by omega), z_bi]
          cases q1 : rdb c B.1 (O p) now with
          | false =>
            rw [if_pos (show nI (b2 false) = 0 from rfl)]
            exact no (fun g => by rw [q1] at g; cases g.2.2.1)
          | true =>
            rw [if_neg (show ¬ nI (b2 true) = 0 by decide), c_rkFree w hb hS hv (by omega), z_bi]
            cases q2 : frb c B.1 (O p) now with
            | false =>
              rw [if_pos (show nI (b2 false) = 0 from rfl)]
              exact no (fun g => by rw [q2] at g; cases g.2.2.2)
            | true =>
              rw [if_neg (show ¬ nI (b2 true) = 0 by decide), z_st (by omega) (by omega), z_bi]
              rw [stp, if_pos ⟨z, by omega, q1, q2⟩] at ih
              have f1 : fr [51] σ (sI σ 51 (O p) (nI now)) := fr.sI (by simp)
              obtain ⟨σ', a1, a2, a3⟩ := ih (sI σ 51 (O p) (nI now)) (hb.fr f1 (by simp)) (by rw [f1 52 (by simp)]; exact h2) (hS.st hw)
              refine ⟨σ', ?_, f1.tr a2, a3⟩
              rw [show (1 : Int32) = nI 1 from rfl, z_add, z_add]
              exact a1
        · rw [if_neg (fun q => z ((mtv_0 (by omega)).mp q))]
          exact no (fun g => z g.1)
  obtain ⟨σ', a1, a2⟩ := key 0 (by omega) FU (by have := FU_b; omega) σ hb h2 hS
  rw [show (bgF c O now S 0).2 = 0 from rfl, show nI 0 = (0 : Int32) from rfl] at a1
  exact ⟨σ', by rw [f_X2_beginAt]; exact a1, a2⟩
def rkO (c : Cf) (r : Nat) : Nat → Nat := ord (wtc c r) (c 23)
/-- the turns by ranks, and 1 -/
def rkS (c : Cf) (r : Nat) : Nat → Nat := RU c (rkO c r) 26
theorem c_run {c : Cf} (w : WF c) {σ : HS} (hb : BOK c σ) {r : Nat} (hr : r ≤ 2) : ∃ σ', f_X2_run (nI r) σ = some σ' ∧ fr [51, 52, 53] σ σ' ∧ TMv 51 c (rkS c r) σ' := by
  have hn := w.p_n
  have hO : ∀ j, j < c 23 → rkO c r j < c 23 := fun j hj => ord_b _ _ _ hj
  obtain ⟨σ1, a1, a2, a3⟩ := c_weigh w hb hr
  have hb1 := hb.fr a2 (by simp)
  obtain ⟨σ2, b1, b2, b3⟩ := c_sort w (fun i hi => by have := wtc_b w r hi; omega) a3
  have hb2 := hb1.fr b2 (by simp)
  obtain ⟨σ3, d1, d2, d3⟩ := c_fill σ2
  have hb3 := hb2.fr d2 (by simp)
  have key : ∀ t, t ≤ 26 → ∀ n, 26 < t + n → ∀ σ : HS, BOK c σ → (∀ j, j < c 23 → σ.1 52 j = nI (rkO c r j)) → TMv 51 c (RU c (rkO c r) t) σ → ∃ σ', f_X2_run_30 n (nI (c 23 - pld (RU c (rkO c r) t) (c 23))) (nI t) σ = some σ' ∧ fr [51] σ σ' ∧ TMv 51 c (rkS c r) σ' := by
    refine dn_ind ?_ ?_
    · intro n hn' σ hb h2 hS
      obtain ⟨n, rfl⟩ : ∃ m, n = m + 1 := ⟨n - 1, by omega⟩
      refine ⟨σ, ?_, fr.rf _ _, hS⟩
      rw [f_X2_run_30, if_pos (by rw [z_lit, z_lt (by omega) (by omega)]; omega)]
    · intro t ht ih n hn' σ hb h2 hS
      obtain ⟨n, rfl⟩ : ∃ m, n = m + 1 := ⟨n - 1, by omega⟩
      have hp := pld_le (RU c (rkO c r) t) (c 23)
      rw [f_X2_run_30, if_neg (by rw [z_lit, z_lt (by omega) (by omega)]; omega)]
      by_cases e : pld (RU c (rkO c r) t) (c 23) = c 23
      · rw [if_pos (by rw [z_0, z_le (by omega) (by omega)]; omega)]
        refine ⟨σ, rfl, fr.rf _ _, ?_⟩
        have := RU_full hO e (26 - t)
        rw [show t + (26 - t) = 26 by omega] at this
        unfold rkS
        rw [this]; exact hS
      · rw [if_neg (by rw [z_0, z_le (by omega) (by omega)]; omega)]
        obtain ⟨σ4, g1, g2, g3⟩ := c_beginAt w hO (now := t) (by omega) hb h2 hS
        have ec := bgF_c hO t (RU c (rkO c r) t) (c 23) (Nat.le_refl _)
        have hp' := pld_le (RU c (rkO c r) (t + 1)) (c 23)
        have er : RU c (rkO c r) (t + 1) = (bgF c (rkO c r) t (RU c (rkO c r) t) (c 23)).1 := rfl
        rw [← er] at ec g3
        obtain ⟨σ', k1, k2, k3⟩ := ih n (by omega) σ4 (hb.fr g2 (by simp)) (by rw [g2 52 (by simp)]; exact h2) g3
        refine ⟨σ', ?_, g2.tr k2, k3⟩
        rw [g1, z_bi, z_sub (by omega), show (1 : Int32) = nI 1 from rfl, z_add, show c 23 - pld (RU c (rkO c r) t) (c 23) - (bgF c (rkO c r) t (RU c (rkO c r) t) (c 23)).2 = c 23 - pld (RU c (rkO c r) (t + 1)) (c 23) by omega]
        exact k1
  have z0 : pld (RU c (rkO c r) 0) (c 23) = 0 := by
    have : ∀ n, pld (fun _ => 0) n = 0 := by
      intro n
      induction n with
      | zero => rfl
      | succ n ih => unfold pld at ih ⊢; rw [fb_ct_succ, ih]; rfl
    exact this _
  obtain ⟨σ4, g1, g2, g3⟩ := key 0 (by omega) FU (by have := FU_b; omega) σ3 hb3 (by rw [d2 52 (by simp)]; exact b3) (fun j hj => ⟨Nat.zero_le _, d3 j (by omega)⟩)
  rw [z0, Nat.sub_zero, show nI 0 = (0 : Int32) from rfl] at g1
  refine ⟨σ4, ?_, (((a2.up (by simp)).tr (b2.up (by simp))).tr (d2.up (by simp))).tr (g2.up (by simp)), g3⟩
  rw [f_X2_run, a1, z_bi, hb1.1, b1, z_bi, d1, z_bi, hb3.1]
  exact g1
