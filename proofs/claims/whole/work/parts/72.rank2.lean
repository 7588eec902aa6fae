-- the class's row by ranks
def wtc (c : Cf) (r i : Nat) : Nat := if r = 0 then wy c i else if r = 2 then fb_ct (fun j => decide (ct c j i ≠ 0)) (c 23) else 0
theorem wtc_b {c : Cf} (w : WF c) (r : Nat) {i : Nat} (hi : i < c 23) : wtc c r i ≤ 35 := by
  have := wy_b w hi
  have := w.p_n
  have := fb_ct_le (fun j => decide (ct c j i ≠ 0)) (c 23)
  unfold wtc
  repeat' split
  all_goals omega
theorem c_weigh {c : Cf} (w : WF c) {σ : HS} (hb : BOK c σ) {r : Nat} (hr : r ≤ 2) : ∃ σ', f_X2_weigh (nI r) σ = some σ' ∧ fr [53] σ σ' ∧ ∀ i, i < c 23 → σ'.1 53 i = nI (wtc c r i) := by
  have hn := w.p_n
  have k44 : ∀ (k : Int32 → Int32 → HS → Option HS) (i : Nat), i < c 23 → ∀ j, j ≤ c 23 → ∀ n, c 23 < j + n → ∀ σ, BOK c σ → σ.1 53 i = nI (fb_ct (fun j => decide (ct c j i ≠ 0)) j) → ∃ σ', fr [53] σ σ' ∧ σ'.1 53 = upd (σ.1 53) i (nI (fb_ct (fun j => decide (ct c j i ≠ 0)) (c 23))) ∧ f_X2_weigh_44 k n (nI r) (nI i) (nI j) σ = k (nI r) (nI i) σ' := by
    intro k i hi
    refine dn_ind ?_ ?_
    · intro n hn' σ hb hm
      obtain ⟨n, rfl⟩ : ∃ m, n = m + 1 := ⟨n - 1, by omega⟩
      refine ⟨σ, fr.rf _ _, ?_, ?_⟩
      · funext q; unfold upd
        by_cases e : q = i
        · rw [if_pos e, e]; exact hm
        · rw [if_neg e]
      · rw [f_X2_weigh_44, hb.1, if_pos (by rw [z_le (by omega) (by omega)]; omega)]
    · intro j hj ih n hn' σ hb hm
      obtain ⟨n, rfl⟩ : ∃ m, n = m + 1 := ⟨n - 1, by omega⟩
      have hd := dd_le w (i := j) hi
      rw [f_X2_weigh_44, hb.1, if_neg (by rw [z_le (by omega) (by omega)]; omega), c_pair, z_bi, z_ld (by omega) (by omega), z_bi, hb.2.2.2.2.2.2.1 j i hj hi, show (1 : Int32) = nI 1 from rfl]
      unfold dv
      rw [z_add]
      by_cases e : ct c j i = 0
      · rw [if_pos e, if_pos rfl]
        exact ih n (by omega) σ hb (by rw [fb_ct_succ, if_neg (by simp [e])]; exact hm)
      · rw [if_neg e, if_neg (z_ne (by omega) (k := 1) (by omega)), z_ld (by omega) (by omega), z_bi, hm, z_add, z_st (by omega) (by omega), z_bi]
        have f1 : fr [53] σ (sI σ 53 i (nI (fb_ct (fun j => decide (ct c j i ≠ 0)) j + 1))) := fr.sI (by simp)
        obtain ⟨σ', a1, a2, a3⟩ := ih n (by omega) _ (hb.fr f1 (by simp)) (by rw [s_I1, u_1, fb_ct_succ, if_pos (by simp [e])])
        refine ⟨σ', f1.tr a1, ?_, a3⟩
        rw [a2, s_I1]
        funext q; unfold upd
        by_cases g : q = i
        · rw [if_pos g, if_pos g]
        · rw [if_neg g, if_neg g, if_neg g]
  have key : ∀ i, i ≤ c 23 → ∀ n, c 23 < i + n → ∀ σ, BOK c σ → (∀ j, j < i → σ.1 53 j = nI (wtc c r j)) → ∃ σ', f_X2_weigh_2 n (nI r) (nI i) σ = some σ' ∧ fr [53] σ σ' ∧ ∀ i, i < c 23 → σ'.1 53 i = nI (wtc c r i) := by
    refine dn_ind ?_ ?_
    · intro n hn' σ hb hm
      obtain ⟨n, rfl⟩ : ∃ m, n = m + 1 := ⟨n - 1, by omega⟩
      refine ⟨σ, ?_, fr.rf _ _, hm⟩
      rw [f_X2_weigh_2, hb.1, if_pos (by rw [z_le (by omega) (by omega)]; omega)]
    · intro i hi ih n hn' σ hb hm
      obtain ⟨n, rfl⟩ : ∃ m, n = m + 1 := ⟨n - 1, by omega⟩
      have f1 : fr [53] σ (sI σ 53 i 0) := fr.sI (by simp)
      have nx : ∀ τ, fr [53] σ τ → τ.1 53 i = nI (wtc c r i) → (∀ j, j < i → τ.1 53 j = σ.1 53 j) → ∃ σ', f_X2_weigh_2 n (nI r) (nI i + 1) τ = some σ' ∧ fr [53] σ σ' ∧ ∀ i, i < c 23 → σ'.1 53 i = nI (wtc c r i) := by
        intro τ t1 t2 t3
        obtain ⟨σ', a1, a2, a3⟩ := ih n (by omega) τ (hb.fr t1 (by simp)) (by
          intro j hj
          by_cases e : j = i
          · rw [e]; exact t2
          · rw [t3 j (by omega)]; exact hm j (by omega))
        refine ⟨σ', ?_, t1.tr a2, a3⟩
        rw [show (1 : Int32) = nI 1 from rfl, z_add]; exact a1
      rw [f_X2_weigh_2, hb.1, if_neg (by rw [z_le (by omega) (by omega)]; omega), z_st (by omega) (by omega), z_bi]
      rcases (show r = 0 ∨ r = 1 ∨ r = 2 by omega) with e | e | e
      · rw [if_pos (by rw [e]; rfl), z_ld (by omega) (by omega), z_bi, s_I2 _ _ _ (by omega), hb.2.2.2.2.1 i hi, z_st (by omega) (by omega), z_bi]
        refine nx _ (f1.tr (fr.sI (by simp))) ?_ (fun j hj => ?_)
        · rw [s_I1, u_1]; unfold wtc; rw [if_pos e]
        · rw [s_I1, u_2 _ _ (by omega), s_I1, u_2 _ _ (by omega)]
      · rw [if_neg (by rw [e]; decide), if_neg (by rw [e]; decide)]
        refine nx _ f1 ?_ (fun j hj => ?_)
        · rw [s_I1, u_1]; unfold wtc; rw [if_neg (by omega), if_neg (by omega)]; rfl
        · rw [s_I1, u_2 _ _ (by omega)]
      · rw [if_neg (by rw [e]; decide), if_pos (by rw [e]; rfl)]
        obtain ⟨σ1, a1, a2, a3⟩ := k44 (fun e6 e7 σ8 => f_X2_weigh_2 n e6 (e7 + 1) σ8) i hi 0 (by omega) FU (by have := FU_b; omega) _ (hb.fr f1 (by simp)) (by rw [s_I1, u_1]; rfl)
        rw [show nI 0 = (0 : Int32) from rfl] at a3
        rw [a3]
        refine nx _ (f1.tr a1) ?_ (fun j hj => ?_)
        · rw [a2, u_1]; unfold wtc; rw [if_neg (by omega), if_pos e]
        · rw [a2, u_2 _ _ (by omega), s_I1, u_2 _ _ (by omega)]
  obtain ⟨σ', a1, a2⟩ := key 0 (by omega) FU (by have := FU_b; omega) σ hb (fun j hj => by omega)
  rw [show nI 0 = (0 : Int32) from rfl] at a1
  exact ⟨σ', by rw [f_X2_weigh]; exact a1, a2⟩
theorem c_sort9 {c : Cf} (w : WF c) {wt : Nat → Nat} (hwt : ∀ i, i < c 23 → wt i < 100) (k : Int32 → Int32 → Int32 → HS → Option HS) (x1 : Int32) {i : Nat} (hi : i < c 23) : ∀ p, p ≤ i → ∀ n, p < n → ∀ (σ : HS) (O : Nat → Nat), (∀ j, j < c 23 → σ.1 53 j = nI (wt j)) → (∀ j, j ≤ i → j ≠ p → O j < c 23 ∧ σ.1 52 j = nI (O j)) → ∃ p' σ', p' ≤ i ∧ fr [52] σ σ' ∧ (∀ j, j ≤ i → (sI σ' 52 p' (nI i)).1 52 j = nI (shf wt i p O j)) ∧ f_X2_sort_9 k n x1 (nI i) (nI p) σ = k x1 (nI i) (nI p') σ' := by
  have hn := w.p_n
  intro p
  induction p with
  | zero =>
    intro _ n hn' σ O h3 h2
    obtain ⟨n, rfl⟩ : ∃ m, n = m + 1 := ⟨n - 1, by omega⟩
    refine ⟨0, σ, by omega, fr.rf _ _, fun j hj => ?_, ?_⟩
    · rw [s_I1, shf]; unfold upd un
      by_cases e : j = 0
      · rw [if_pos e, if_pos e]
      · rw [if_neg e, if_neg e]; exact (h2 j hj e).2
    · rw [f_X2_sort_9, if_pos (by decide)]
  | succ p ih =>
    intro hp n hn' σ O h3 h2
    obtain ⟨n, rfl⟩ : ∃ m, n = m + 1 := ⟨n - 1, by omega⟩
    obtain ⟨o1, o2⟩ := h2 p (by omega) (by omega)
    have w1 := hwt _ o1
    have w2 := hwt i hi
    have e1 : nI (p + 1) - 1 = nI p := by
      show nI (p + 1) - nI 1 = _
      rw [z_sub (by omega)]; rfl
    have e2 : nI (p + 1) + -1 = nI p := by rw [← Int32.sub_eq_add_neg]; exact e1
    rw [f_X2_sort_9, if_neg (by rw [z_0, z_le (by omega) (by omega)]; omega), e1, e2, z_ld (by omega) (by omega), z_bi, o2, z_ld (by omega) (by omega), z_bi, h3 _ o1, z_ld (by omega) (by omega), z_bi, h3 i hi, shf]
    by_cases q : wt i ≤ wt (O p)
    · rw [if_pos q, if_pos (by rw [z_le (by omega) (by omega)]; exact q)]
      refine ⟨p + 1, σ, hp, fr.rf _ _, fun j hj => ?_, rfl⟩
      rw [s_I1]; unfold upd un
      by_cases e : j = p + 1
      · rw [if_pos e, if_pos e]
      · rw [if_neg e, if_neg e]; exact (h2 j hj e).2
    · rw [if_neg q, if_neg (by rw [z_le (by omega) (by omega)]; exact q), z_bi, z_st (by omega) (by omega), z_bi]
      have f1 : fr [52] σ (sI σ 52 (p + 1) (nI (O p))) := fr.sI (by simp)
      obtain ⟨p', σ', a1, a2, a3, a4⟩ := ih (by omega) n (by omega) (sI σ 52 (p + 1) (nI (O p))) (un O (p + 1) (O p)) (by rw [f1 53 (by simp)]; exact h3) (by
        intro j hj hne
        rw [s_I1]; unfold upd un
        by_cases e : j = p + 1
        · rw [if_pos e, if_pos e]; exact ⟨o1, rfl⟩
        · rw [if_neg e, if_neg e]; exact h2 j hj e)
      exact ⟨p', σ', a1, f1.tr a2, a3, a4⟩
theorem c_sort {c : Cf} (w : WF c) {wt : Nat → Nat} (hwt : ∀ i, i < c 23 → wt i < 100) {σ : HS} (h3 : ∀ j, j < c 23 → σ.1 53 j = nI (wt j)) : ∃ σ', f_X2_sort (nI (c 23)) σ = some σ' ∧ fr [52] σ σ' ∧ ∀ j, j < c 23 → σ'.1 52 j = nI (ord wt (c 23) j) := by
  have hn := w.p_n
  have key : ∀ i, i ≤ c 23 → ∀ n, c 23 < i + n → ∀ σ : HS, (∀ j, j < c 23 → σ.1 53 j = nI (wt j)) → (∀ j, j < i → σ.1 52 j = nI (ord wt i j)) → ∃ σ', f_X2_sort_2 n (nI (c 23)) (nI i) σ = some σ' ∧ fr [52] σ σ' ∧ ∀ j, j < c 23 → σ'.1 52 j = nI (ord wt (c 23) j) := by
    refine dn_ind ?_ ?_
    · intro n hn' σ h3 h2
      obtain ⟨n, rfl⟩ : ∃ m, n = m + 1 := ⟨n - 1, by omega⟩
      refine ⟨σ, ?_, fr.rf _ _, h2⟩
      rw [f_X2_sort_2, if_pos (by rw [z_le (by omega) (by omega)]; omega)]
    · intro i hi ih n hn' σ h3 h2
      obtain ⟨n, rfl⟩ : ∃ m, n = m + 1 := ⟨n - 1, by omega⟩
      obtain ⟨p', σ1, a1, a2, a3, a4⟩ := c_sort9 w hwt (fun e6 e7 e8 σ9 => (stI σ9 52 6 e8 e7).bind fun σ10 => f_X2_sort_2 n e6 (e7 + 1) σ10) (nI (c 23)) hi i (by omega) FU (by have := FU_b; omega) σ (ord wt i) h3 (fun j hj hne => ⟨by have := ord_b wt i j (by omega); omega, h2 j (by omega)⟩)
      have f2 : fr [52] σ (sI σ1 52 p' (nI i)) := a2.tr (fr.sI (by simp))
      obtain ⟨σ', b1, b2, b3⟩ := ih n (by omega) (sI σ1 52 p' (nI i)) (by rw [f2 53 (by simp)]; exact h3) (fun j hj => by rw [ord]; exact a3 j (by omega))
      refine ⟨σ', ?_, f2.tr b2, b3⟩
      rw [f_X2_sort_2, if_neg (by rw [z_le (by omega) (by omega)]; omega), a4]
      show ((stI σ1 52 6 (nI p') (nI i)).bind fun σ10 => f_X2_sort_2 n (nI (c 23)) (nI i + nI 1) σ10) = _
      rw [z_st (by omega) (by omega), z_bi, z_add]
      exact b1
  obtain ⟨σ', a1, a2⟩ := key 0 (by omega) FU (by have := FU_b; omega) σ h3 (fun j hj => by omega)
  rw [show nI 0 = (0 : Int32) from rfl] at a1
  exact ⟨σ', by rw [f_X2_sort]; exact a1, a2⟩
theorem c_fill (σ : HS) : ∃ σ', f_J7_fill_53178 (-1) σ = some σ' ∧ fr [51] σ σ' ∧ ∀ j, j < 6 → σ'.1 51 j = -1 := by
  have key : ∀ i, i ≤ 6 → ∀ n, 6 < i + n → ∀ σ : HS, (∀ j, j < i → σ.1 51 j = -1) → ∃ σ', f_J7_fill_53178_5 n (-1) (nI i) (nI 6) σ = some σ' ∧ fr [51] σ σ' ∧ ∀ j, j < 6 → σ'.1 51 j = -1 := by
    refine dn_ind ?_ ?_
    · intro n hn' σ h
      obtain ⟨n, rfl⟩ : ∃ m, n = m + 1 := ⟨n - 1, by omega⟩
      refine ⟨σ, ?_, fr.rf _ _, h⟩
      rw [f_J7_fill_53178_5, if_pos (by rw [z_le (by omega) (by omega)]; omega)]
    · intro i hi ih n hn' σ h
      obtain ⟨n, rfl⟩ : ∃ m, n = m + 1 := ⟨n - 1, by omega⟩
      rw [f_J7_fill_53178_5, if_neg (by rw [z_le (by omega) (by omega)]; omega), z_st (by omega) (by omega), z_bi, show (1 : Int32) = nI 1 from rfl, z_add]
      obtain ⟨σ', a1, a2, a3⟩ := ih n (by omega) (sI σ 51 i (-nI 1)) (by
        intro j hj
        rw [s_I1]; unfold upd
        by_cases e : j = i
        · rw [if_pos e]; rfl
        · rw [if_neg e]; exact h j (by omega))
      exact ⟨σ', a1, (fr.sI (by simp)).tr a2, a3⟩
  obtain ⟨σ', a1, a2⟩ := key 0 (by omega) FU (by have := FU_b; omega) σ (fun j hj => by omega)
  rw [show nI 0 = (0 : Int32) from rfl, show nI 6 = (6 : Int32) from rfl] at a1
  exact ⟨σ', by rw [f_J7_fill_53178]; exact a1, a2⟩
