-- ranked, the class's call, and the reference's
def rkT (c : Cf) (r : Nat) : Nat → Nat := fun i => rkS c r i - 1
theorem rk_ok {c : Cf} (w : WF c) (r : Nat) {i : Nat} (hi : i < c 23) : rkS c r i ≠ 0 ∧ rkS c r i ≤ 26 :=
  ⟨full _ (RU_26 w (fun j hj => ord_b _ _ _ hj) (fun x hx => ord_m _ _ _ hx)) i hi, RU_b i 26⟩
theorem rk_TN {c : Cf} (w : WF c) {r o : Nat} {σ : HS} (h : TMv o c (rkS c r) σ) : TN o (rkT c r) (c 23) σ := by
  intro j hj
  have := rk_ok w r hj
  refine ⟨by unfold rkT; omega, ?_⟩
  rw [(h j hj).2, mtv_s this.1]; rfl
def vRk (c : Cf) (r : Nat) (x : Int32) : Int32 := if x = -1 then nI (len c (rkT c r)) else nI (rkT c r x.toInt.toNat)
def inRk (r x : Int32) (a : AS) : Prop := okR 0 2 r = true ∧ (x = -1 ∨ (0 ≤ x.toInt ∧ x.toInt < aC a 23))
def aRk (r x : Int32) (a : AS) (v : Int32) (a' : AS) : Prop := (inRk r x a ∧ v = vRk (aC a) r.toInt.toNat x ∧ a' = a) ∨ (¬ inRk r x a ∧ v = -2 ∧ a' = aRef 0 a)
theorem aRk.un {r x : Int32} {a a' a'' : AS} {v v' : Int32} (h : aRk r x a v a') (h' : aRk r x a v' a'') : v = v' ∧ a' = a'' := by
  rcases h with ⟨h1, h2, h3⟩ | ⟨h1, h2, h3⟩ <;> rcases h' with ⟨g1, g2, g3⟩ | ⟨g1, g2, g3⟩
  · exact ⟨by rw [h2, g2], by rw [h3, g3]⟩
  · exact absurd h1 g1
  · exact absurd g1 h1
  · exact ⟨by rw [h2, g2], by rw [h3, g3]⟩
abbrev lR : List Nat := [42, 43, 44, 45, 46, 47, 48, 51, 52, 53, 66]
theorem c_rankedLength {a : AS} {σ : HS} (h : IC a σ) (w : WA a) (hk : KCb (aC a) σ) {r : Nat} (hr : r ≤ 2) : ∃ σ', f_X8_rankedLength (nI r) σ = some (nI (len (aC a) (rkT (aC a) r)), σ') ∧ IC a σ' ∧ KCb (aC a) σ' ∧ fr lR σ σ' ∧ TN 51 (rkT (aC a) r) (aC a 23) σ' := by
  obtain ⟨σ1, a1, a2, a3, a4⟩ := c_learn w.1 h.1 hk
  obtain ⟨σ2, b1, b2, b3⟩ := c_run w.1 a3 hr
  have hT := rk_TN w.1 b3
  have hb2 := a3.fr b2 (by simp)
  refine ⟨σ2, ?_, (h.fr a2 (by simp)).fr b2 (by simp), Or.inr ⟨by rw [b2 42 (by simp)]; exact a4, hb2⟩, (a2.up (by simp)).tr (b2.up (by simp)), hT⟩
  rw [f_X8_rankedLength, a1, z_bi, b1, z_bi, c_lengthOf hb2 w.1 hT, z_bi]
theorem c_ranked {a : AS} {σ : HS} (h : IC a σ) (w : WA a) (hk : KCb (aC a) σ) (r x : Int32) : ∃ v a' σ', f_X8_ranked r x σ = some (v, σ') ∧ aRk r x a v a' ∧ IC a' σ' ∧ aC a' = aC a ∧ KCb (aC a) σ' ∧ fr lR σ σ' := by
  have hn := w.1.p_n
  have hb : ¬ inRk r x a → ∃ v a' σ', ((f_X8_counted (-2) σ).bind fun q => some (q.1, q.2)) = some (v, σ') ∧ aRk r x a v a' ∧ IC a' σ' ∧ aC a' = aC a ∧ KCb (aC a) σ' ∧ fr lR σ σ' := by
    intro hno
    obtain ⟨σ', e1, e2, e3⟩ := c_ref h (r := -2) (Or.inl rfl) (k := 0) (by decide)
    exact ⟨-2, _, σ', e1, Or.inr ⟨hno, rfl, rfl⟩, e2, rfl, hk.fr e3 (by simp), e3.up (by simp)⟩
  have s32 : inRk r x a → ∃ v a' σ', f_X8_ranked_32 r x σ = some (v, σ') ∧ aRk r x a v a' ∧ IC a' σ' ∧ aC a' = aC a ∧ KCb (aC a) σ' ∧ fr lR σ σ' := by
    intro hi
    obtain ⟨n, a1, a2, a3, a4, a5⟩ := okR_nI (lo := 0) (hi := 2) hi.1
    obtain ⟨σ1, d1, d2, d3, d4, d5⟩ := c_rankedLength h w hk (r := n) a2
    refine ⟨vRk (aC a) r.toInt.toNat x, a, σ1, ?_, Or.inl ⟨hi, rfl, rfl⟩, d2, rfl, d3, d4⟩
    rw [f_X8_ranked_32, a5, a4, d1, z_bi]
    unfold vRk
    by_cases e : x = -1
    · rw [if_pos e, if_pos e]
    · rw [if_neg e, if_neg e]
      rcases hi.2 with q | q
      · exact absurd q e
      · obtain ⟨m, b1, b2, b3⟩ := z_of (v := x) q.1
        rw [show x.toInt.toNat = m by omega, b2, z_ld (by omega) (by omega), z_bi, (d5 m (by omega)).2]
  rw [f_X8_ranked]
  by_cases q1 : r.toInt < 0
  · rw [if_pos (by rw [z_ltI]; exact q1)]
    exact hb (fun e => by have := okR_t.mp e.1; omega)
  · rw [if_neg (by rw [z_ltI]; exact q1)]
    by_cases q2 : 3 ≤ r.toInt
    · rw [if_pos (by rw [z_leI]; exact q2)]
      exact hb (fun e => by have := okR_t.mp e.1; omega)
    · rw [if_neg (by rw [z_leI]; exact q2)]
      have ok : okR 0 2 r = true := okR_t.mpr (by omega)
      by_cases q3 : x = -1
      · rw [if_pos q3]
        exact s32 ⟨ok, Or.inl q3⟩
      · rw [if_neg q3, c_hasInstruction h.1 w.1, z_bi]
        by_cases hi : 0 ≤ x.toInt ∧ x.toInt < aC a 23
        · have e1 : decide (0 ≤ x.toInt ∧ x.toInt < (aC a 23 : Int)) = true := by simpa using hi
          rw [e1, if_neg (show ¬ nI (b2 true) = 0 by decide)]
          exact s32 ⟨ok, Or.inr hi⟩
        · have e1 : decide (0 ≤ x.toInt ∧ x.toInt < (aC a 23 : Int)) = false := by simpa using hi
          rw [e1, if_pos (show nI (b2 false) = 0 from rfl)]
          exact hb (fun e => e.2.elim (fun g => q3 g) (fun g => hi g))
-- the reference
theorem m_rank {c : Cf} {σ : HS} (h : MR c σ) (w : WF c) (hm : MW 76 77 c (wy c, ea c) σ) {r i : Nat} (hr : r ≤ 2) (hi : i < c 23) : f_X9_rank (nI r) (nI i) σ = some (nI (wtc c r i), σ) := by
  have hn := w.p_n
  have key : ∀ j, j ≤ c 23 → ∀ n, c 23 < j + n → f_X9_rank_25 n (nI i) (nI (fb_ct (fun j => decide (ct c j i ≠ 0)) j)) (nI j) σ = some (nI (fb_ct (fun j => decide (ct c j i ≠ 0)) (c 23)), σ) := by
    refine dn_ind ?_ ?_
    · intro n hn'
      obtain ⟨n, rfl⟩ : ∃ m, n = m + 1 := ⟨n - 1, by omega⟩
      rw [f_X9_rank_25, show (23 : Int32) = nI 23 from rfl, z_ld (by omega) (by omega), z_bi, h 23 (by omega), if_pos (by rw [z_le (by omega) (by omega)]; omega)]
    · intro j hj ih n hn'
      obtain ⟨n, rfl⟩ : ∃ m, n = m + 1 := ⟨n - 1, by omega⟩
      have c2 : ct c j i ≤ 2 := by
        have := w.p_nd (show j < 6 by omega) (show i < 6 by omega)
        unfold ct; split <;> omega
      have ih := ih n (by omega)
      rw [fb_ct_succ] at ih
      rw [f_X9_rank_25, show (23 : Int32) = nI 23 from rfl, z_ld (by omega) (by omega), z_bi, h 23 (by omega), if_neg (by rw [z_le (by omega) (by omega)]; omega), m_counts h w (by omega) (by omega), z_bi, z_0, show (1 : Int32) = nI 1 from rfl, z_add, z_add, z_add]
      by_cases e : ct c j i = 0
      · rw [if_pos (by rw [e])]; rw [if_neg (by simp [e])] at ih; exact ih
      · rw [if_neg (by rw [z_eq (by omega) (by omega)]; exact e)]; rw [if_pos (by simp [e])] at ih; exact ih
  have k := key 0 (by omega) FU (by have := FU_b; omega)
  rw [show fb_ct (fun j => decide (ct c j i ≠ 0)) 0 = 0 from rfl, show nI 0 = (0 : Int32) from rfl] at k
  rw [f_X9_rank]
  unfold wtc
  rcases (show r = 0 ∨ r = 1 ∨ r = 2 by omega) with e | e | e
  · rw [if_neg (by rw [e]; decide), if_pos (by rw [e]; rfl), if_pos e, z_ld (by omega) (by omega), z_bi, (hm i hi).1]
  · rw [if_neg (by rw [e]; decide), if_neg (by rw [e]; decide), if_neg (by omega), if_neg (by omega)]; rfl
  · rw [if_pos (by rw [e]; decide), if_neg (by omega), if_pos e]; exact k
theorem m_order15 {c : Cf} (w : WF c) {r : Nat} (hr : r ≤ 2) (k : Int32 → Int32 → Int32 → HS → Option HS) {i : Nat} (hi : i < c 23) : ∀ p, p ≤ i → ∀ n, p < n → ∀ (σ : HS) (O : Nat → Nat), MR c σ → MW 76 77 c (wy c, ea c) σ → (∀ j, j ≤ i → j ≠ p → O j < c 23 ∧ σ.1 80 j = nI (O j)) → ∃ p' σ', p' ≤ i ∧ fr [80] σ σ' ∧ (∀ j, j ≤ i → (sI σ' 80 p' (nI i)).1 80 j = nI (shf (wtc c r) i p O j)) ∧ f_X9_findOrder_15 k n (nI r) (nI i) (nI p) σ = k (nI r) (nI i) (nI p') σ' := by
  have hn := w.p_n
  intro p
  induction p with
  | zero =>
    intro _ n hn' σ O _ _ h2
    obtain ⟨n, rfl⟩ : ∃ m, n = m + 1 := ⟨n - 1, by omega⟩
    refine ⟨0, σ, by omega, fr.rf _ _, fun j hj => ?_, ?_⟩
    · rw [s_I1, shf]; unfold upd un
      by_cases e : j = 0
      · rw [if_pos e, if_pos e]
      · rw [if_neg e, if_neg e]; exact (h2 j hj e).2
    · rw [f_X9_findOrder_15, if_pos (by decide)]
  | succ p ih =>
    intro hp n hn' σ O hM hW h2
    obtain ⟨n, rfl⟩ : ∃ m, n = m + 1 := ⟨n - 1, by omega⟩
    obtain ⟨o1, o2⟩ := h2 p (by omega) (by omega)
    have w1 := wtc_b w r o1
    have w2 := wtc_b w r hi
    have e1 : nI (p + 1) - 1 = nI p := by
      show nI (p + 1) - nI 1 = _
      rw [z_sub (by omega)]; rfl
    have e2 : nI (p + 1) + -1 = nI p := by rw [← Int32.sub_eq_add_neg]; exact e1
    rw [f_X9_findOrder_15, if_neg (by rw [z_0, z_le (by omega) (by omega)]; omega), e1, e2, z_ld (by omega) (by omega), z_bi, o2, m_rank hM w hW hr o1, z_bi, m_rank hM w hW hr hi, z_bi, shf]
    by_cases q : wtc c r i ≤ wtc c r (O p)
    · rw [if_pos q, if_pos (by rw [z_le (by omega) (by omega)]; exact q)]
      refine ⟨p + 1, σ, hp, fr.rf _ _, fun j hj => ?_, rfl⟩
      rw [s_I1]; unfold upd un
      by_cases e : j = p + 1
      · rw [if_pos e, if_pos e]
      · rw [if_neg e, if_neg e]; exact (h2 j hj e).2
    · rw [if_neg q, if_neg (by rw [z_le (by omega) (by omega)]; exact q), z_ld (by omega) (by omega), z_bi, o2, z_st (by omega) (by omega), z_bi]
      have f1 : fr [80] σ (sI σ 80 (p + 1) (nI (O p))) := fr.sI (by simp)
      obtain ⟨p', σ', a1, a2, a3, a4⟩ := ih (by omega) n (by omega) (sI σ 80 (p + 1) (nI (O p))) (un O (p + 1) (O p)) (MR.fr hM f1 (by simp)) (by unfold MW; rw [f1 76 (by simp), f1 77 (by simp)]; exact hW) (by
        intro j hj hne
        rw [s_I1]; unfold upd un
        by_cases e : j = p + 1
        · rw [if_pos e, if_pos e]; exact ⟨o1, rfl⟩
        · rw [if_neg e, if_neg e]; exact h2 j hj e)
      exact ⟨p', σ', a1, f1.tr a2, a3, a4⟩
theorem m_findOrder {c : Cf} (w : WF c) {r : Nat} (hr : r ≤ 2) {σ : HS} (hM : MR c σ) (hW : MW 76 77 c (wy c, ea c) σ) : ∃ σ', f_X9_findOrder (nI r) σ = some σ' ∧ fr [80] σ σ' ∧ ∀ j, j < c 23 → σ'.1 80 j = nI (rkO c r j) := by
  have hn := w.p_n
  have key : ∀ i, i ≤ c 23 → ∀ n, c 23 < i + n → ∀ σ : HS, MR c σ → MW 76 77 c (wy c, ea c) σ → (∀ j, j < i → σ.1 80 j = nI (ord (wtc c r) i j)) → ∃ σ', f_X9_findOrder_2 n (nI r) (nI i) σ = some σ' ∧ fr [80] σ σ' ∧ ∀ j, j < c 23 → σ'.1 80 j = nI (rkO c r j) := by
    refine dn_ind ?_ ?_
    · intro n hn' σ hM hW h2
      obtain ⟨n, rfl⟩ : ∃ m, n = m + 1 := ⟨n - 1, by omega⟩
      refine ⟨σ, ?_, fr.rf _ _, h2⟩
      rw [f_X9_findOrder_2, show (23 : Int32) = nI 23 from rfl, z_ld (by omega) (by omega), z_bi, hM 23 (by omega), if_pos (by rw [z_le (by omega) (by omega)]; omega)]
    · intro i hi ih n hn' σ hM hW h2
      obtain ⟨n, rfl⟩ : ∃ m, n = m + 1 := ⟨n - 1, by omega⟩
      obtain ⟨p', σ1, a1, a2, a3, a4⟩ := m_order15 w hr (fun e7 e8 e9 σ10 => (stI σ10 80 6 e9 e8).bind fun σ11 => f_X9_findOrder_2 n e7 (e8 + 1) σ11) hi i (by omega) FU (by have := FU_b; omega) σ (ord (wtc c r) i) hM hW (fun j hj hne => ⟨by have := ord_b (wtc c r) i j (by omega); omega, h2 j (by omega)⟩)
      have f2 : fr [80] σ (sI σ1 80 p' (nI i)) := a2.tr (fr.sI (by simp))
      obtain ⟨σ', b1, b2, b3⟩ := ih n (by omega) (sI σ1 80 p' (nI i)) (MR.fr hM f2 (by simp)) (by unfold MW; rw [f2 76 (by simp), f2 77 (by simp)]; exact hW) (fun j hj => by rw [ord]; exact a3 j (by omega))
      refine ⟨σ', ?_, f2.tr b2, b3⟩
      rw [f_X9_findOrder_2, show (23 : Int32) = nI 23 from rfl, z_ld (by omega) (by omega), z_bi, hM 23 (by omega), if_neg (by rw [z_le (by omega) (by omega)]; omega), a4]
      show ((stI σ1 80 6 (nI p') (nI i)).bind fun σ10 => f_X9_findOrder_2 n (nI r) (nI i + nI 1) σ10) = _
      rw [z_st (by omega) (by omega), z_bi, z_add]
      exact b1
  obtain ⟨σ', a1, a2⟩ := key 0 (by omega) FU (by have := FU_b; omega) σ hM hW (fun j hj => by omega)
  rw [show nI 0 = (0 : Int32) from rfl] at a1
  exact ⟨σ', by rw [f_X9_findOrder]; exact a1, a2⟩
