-- the reference's chart, and its calls
def CG (c c' : Cf) : Prop := c 0 ≤ 5 ∧ ∀ k, k < 21 → c' k = c k
theorem CG_hm {c c' : Cf} (h : CG c c') {k : Nat} (hk : k < c 0) : hm c' k = hm c k := by
  have h0 := h.1
  show (c' (1 + 4 * k + 0) ||| c' (1 + 4 * k + 1) <<< 4) ||| c' (1 + 4 * k + 2) <<< 8 = (c (1 + 4 * k + 0) ||| c (1 + 4 * k + 1) <<< 4) ||| c (1 + 4 * k + 2) <<< 8
  rw [h.2 (1 + 4 * k + 0) (by omega), h.2 (1 + 4 * k + 1) (by omega), h.2 (1 + 4 * k + 2) (by omega)]
theorem CG_z {c c' : Cf} (h : CG c c') : c' 0 = c 0 := h.2 0 (by omega)
theorem CG_inn {c c' : Cf} (h : CG c c') (x : Nat) (p : SL) : ∀ k, k ≤ c 0 → inn c' x k p = inn c x k p := by
  intro k
  induction k with
  | zero => intro _; rfl
  | succ k ih => intro hk; rw [inn, inn, ih (by omega), CG_hm h (by omega)]
theorem CG_one {c c' : Cf} (h : CG c c') (x : Nat) (p : SL) : one c' x p = one c x p := by
  unfold one; rw [CG_z h, CG_inn h x p _ (Nat.le_refl _)]
theorem CG_exS {c c' : Cf} (h : CG c c') : ∀ s, exS c' s = exS c s := by
  intro s
  induction s with
  | zero => rfl
  | succ s ih => rw [exS, exS, ih, CG_one h]
theorem CG_LSt {c c' : Cf} (h : CG c c') : LSt c' = LSt c := CG_exS h 151
theorem CG_suc {c c' : Cf} (h : CG c c') (x : Nat) {t : Nat} (ht : t ≤ c 0) : suc c' x t = suc c x t := by
  cases t with
  | zero => rfl
  | succ k => rw [suc, suc, CG_hm h (by omega)]
theorem CG_sgk {c c' : Cf} (h : CG c c') (x t : Nat) : ∀ k, k ≤ c 0 → ∀ a, sgk c' x t k a = sgk c x t k a := by
  intro k
  induction k with
  | zero => intro _ _; rfl
  | succ k ih => intro hk a; rw [sgk, sgk, ih (by omega), CG_hm h (by omega)]
theorem CG_sgt {c c' : Cf} (h : CG c c') (x : Nat) : ∀ t, sgt c' x t = sgt c x t := by
  intro t
  induction t with
  | zero => rfl
  | succ t ih => rw [sgt, sgt, ih, CG_z h, CG_sgk h _ _ _ (Nat.le_refl _)]
theorem CG_sgs {c c' : Cf} (h : CG c c') (p : SL) : sgs c' p = sgs c p := by
  funext i; exact CG_sgt h (p.2 i) 4
theorem CG_ncl {c c' : Cf} (h : CG c c') (p : SL) (n : Nat) : ncl c' p n = ncl c p n := by
  unfold ncl; rw [CG_sgs h]
def MOK (c : Cf) (σ : HS) : Prop := LM (LSt c) σ ∧ ((LSt c).1 ≤ 150 → (∀ s t, s < (LSt c).1 → t ≤ c 0 → OKv c (LSt c) ((LSt c).2 s) t (σ.1 73 (6 * s + t))) ∧ σ.1 67 9 = nI (ncl c (LSt c) (LSt c).1) ∧ ∃ G : Nat → Nat, (∀ i, i < (LSt c).1 → G i < 1000 ∧ σ.1 74 i = nI (G i)) ∧ ∀ s t, s < (LSt c).1 → t < (LSt c).1 → (G s = G t ↔ sgs c (LSt c) s = sgs c (LSt c) t))
theorem MOK.cg {c c' : Cf} (g : CG c c') {σ : HS} (h : MOK c σ) : MOK c' σ := by
  unfold MOK at h ⊢
  rw [CG_LSt g, CG_sgs g, CG_ncl g]
  refine ⟨h.1, fun hp => ⟨fun s t hs ht => ?_, (h.2 hp).2⟩⟩
  rw [CG_z g] at ht
  have := (h.2 hp).1 s t hs ht
  unfold OKv at this ⊢
  rw [CG_suc g _ ht]; exact this
theorem MOK.eq {c : Cf} {σ σ' : HS} (h : MOK c σ) (h6 : σ'.1 67 6 = σ.1 67 6) (h9 : σ'.1 67 9 = σ.1 67 9) (h2 : σ'.1 72 = σ.1 72) (h3 : σ'.1 73 = σ.1 73) (h4 : σ'.1 74 = σ.1 74) : MOK c σ' := by
  unfold MOK LM at h ⊢
  rw [h6, h9, h2, h3, h4]; exact h
def KCm (c : Cf) (σ : HS) : Prop := σ.1 67 5 = 0 ∨ (σ.1 67 5 = 1 ∧ MOK c σ)
theorem KCm.me {a a' : AS} {σ σ' : HS} (w : WA a) (h : KCm (aC a) σ) (m : ME a a' σ σ') : KCm (aC a') σ' := by
  obtain ⟨m1, m2, m3, m4, m5, m6⟩ := m
  rcases m1 with m1 | ⟨m1, m7⟩
  · exact Or.inl m1
  · rcases h with h | ⟨h1, h2⟩
    · left; rw [m1]; exact h
    · right
      exact ⟨by rw [m1]; exact h1, (h2.cg ⟨w.1.p_k, m7⟩).eq m2 m3 m4 m5 m6⟩
theorem KCm.fr {c : Cf} {σ σ' : HS} (h : KCm c σ) {l : List Nat} (hf : fr l σ σ') (hl : ∀ o, o ∈ l → o ≠ 67 ∧ o ≠ 72 ∧ o ≠ 73 ∧ o ≠ 74) : KCm c σ' := by
  have g : ∀ o, (o = 67 ∨ o = 72 ∨ o = 73 ∨ o = 74) → σ'.1 o = σ.1 o := fun o ho => hf o (fun q => by have := hl o q; omega)
  rcases h with h | ⟨h1, h2⟩
  · left; rw [g 67 (by omega)]; exact h
  · right
    exact ⟨by rw [g 67 (by omega)]; exact h1, h2.eq (by rw [g 67 (by omega)]) (by rw [g 67 (by omega)]) (g 72 (by omega)) (g 73 (by omega)) (g 74 (by omega))⟩
def GM (σ σ' : HS) : Prop := (∀ o, o ≠ 67 → o ≠ 72 → o ≠ 73 → o ≠ 74 → o ≠ 75 → σ'.1 o = σ.1 o) ∧ ∀ k, k ≠ 5 → k ≠ 6 → k ≠ 9 → σ'.1 67 k = σ.1 67 k
theorem GM.tr {a b d : HS} (h : GM a b) (h' : GM b d) : GM a d := ⟨fun o h1 h2 h3 h4 h5 => (h'.1 o h1 h2 h3 h4 h5).trans (h.1 o h1 h2 h3 h4 h5), fun k h1 h2 h3 => (h'.2 k h1 h2 h3).trans (h.2 k h1 h2 h3)⟩
theorem GM.M {σ σ' : HS} (h : GM σ σ') : frM σ σ' := fun o ho => h.1 o (by omega) (by omega) (by omega) (by omega) (by omega)
theorem GM.rf (σ : HS) : GM σ σ := ⟨fun _ _ _ _ _ _ => rfl, fun _ _ _ _ => rfl⟩
theorem IM.GM {a : AS} {σ σ' : HS} (h : IM a σ) (g : GM σ σ') : IM a σ' := by
  obtain ⟨h1, h2, h3, h4, h5, h6⟩ := h
  refine ⟨?_, ?_, ?_, ?_, ?_, ?_⟩
  · intro k hk; rw [g.1 68 (by omega) (by omega) (by omega) (by omega) (by omega)]; exact h1 k hk
  · rw [g.2 3 (by omega) (by omega) (by omega)]; exact h2
  · rw [g.1 70 (by omega) (by omega) (by omega) (by omega) (by omega)]; exact h3
  · rw [g.1 71 (by omega) (by omega) (by omega) (by omega) (by omega)]; exact h4
  · rw [g.2 18 (by omega) (by omega) (by omega)]; exact h5
  · rw [g.1 81 (by omega) (by omega) (by omega) (by omega) (by omega)]; exact h6
theorem m_isMuch {a : AS} {σ : HS} (h : IM a σ) (w : WA a) (hk : KCm (aC a) σ) : ∃ σ', f_X9_isMuch σ = some (nI (if (LSt (aC a)).1 ≤ 150 then 0 else 1), σ') ∧ IM a σ' ∧ MOK (aC a) σ' ∧ KCm (aC a) σ' ∧ GM σ σ' := by
  have hg := (LSt_GD w.1).1
  have fin : ∀ σ1 : HS, LM (LSt (aC a)) σ1 → f_X9_isMuch_30 σ1 = some (nI (if (LSt (aC a)).1 ≤ 150 then 0 else 1), σ1) := by
    intro σ1 h1
    rw [f_X9_isMuch_30, h1.1]
    by_cases e : (LSt (aC a)).1 ≤ 150
    · rw [if_pos (by rw [z_lit, z_le (by omega) (by omega)]; exact e), if_pos e]; rfl
    · rw [if_neg (by rw [z_lit, z_le (by omega) (by omega)]; exact e), if_neg e]; rfl
  rw [f_X9_isMuch]
  by_cases e5 : σ.1 67 5 = 0
  · rw [if_pos e5]
    have g0 : GM σ (sI σ 67 5 1) := ⟨fun o h1 _ _ _ _ => s_I2 σ 5 1 h1, fun k h5 _ _ => by rw [s_I1]; unfold upd; rw [if_neg h5]⟩
    have h0 := h.GM g0
    obtain ⟨σ1, a1, a2, a3, a4⟩ := m_findStates w.1 h0.1
    have g1 : GM (sI σ 67 5 1) σ1 := ⟨fun o h1 h2 h3 _ _ => a2.1 o h1 h2 h3, fun k _ h6 _ => a2.2 k h6⟩
    have h1 := h0.GM g1
    have n5 : σ1.1 67 5 = 1 := by rw [a2.2 5 (by omega), s_I1]; unfold upd; rw [if_pos rfl]
    rw [a1, z_bi, a3.1]
    by_cases e : (LSt (aC a)).1 ≤ 150
    · rw [if_neg (by rw [z_lit, z_lt (by omega) (by omega)]; omega)]
      obtain ⟨σ2, b1, b2, b3, G, b4, b5⟩ := m_findClasses w.1 e h1.1 a3.1 (a4 e)
      have g2 : GM σ1 σ2 := ⟨fun o h1 _ _ h4 h5 => b2.1 o h1 h4 h5, fun k _ _ h9 => b2.2 k h9⟩
      have l2 : LM (LSt (aC a)) σ2 := by
        refine ⟨by rw [b2.2 6 (by omega)]; exact a3.1, ?_⟩
        rw [b2.1 72 (by omega) (by omega) (by omega)]; exact a3.2
      have mo : MOK (aC a) σ2 := ⟨l2, fun _ => ⟨by rw [b2.1 73 (by omega) (by omega) (by omega)]; exact a4 e, b3, G, b4, b5⟩⟩
      refine ⟨σ2, by rw [b1, z_bi]; exact fin σ2 l2, h1.GM g2, mo, Or.inr ⟨by rw [b2.2 5 (by omega)]; exact n5, mo⟩, (g0.tr g1).tr g2⟩
    · rw [if_pos (by rw [z_lit, z_lt (by omega) (by omega)]; omega)]
      have mo : MOK (aC a) σ1 := ⟨a3, fun q => absurd q e⟩
      exact ⟨σ1, fin σ1 a3, h1, mo, Or.inr ⟨n5, mo⟩, g0.tr g1⟩
  · rw [if_neg e5]
    rcases hk with q | ⟨q1, q2⟩
    · exact absurd q e5
    · exact ⟨σ, fin σ q2.1, h, q2, Or.inr ⟨q1, q2⟩, GM.rf σ⟩
theorem m_much {a : AS} {σ : HS} (h : IM a σ) (hk : KCm (aC a) σ) {r : Int32} {k : Nat} (hr : r = -2 ∨ r = -3 ∨ r = -4 ∨ r = -5) (hk' : (-2 - r).toNatClampNeg = k) : ∃ σ', ((f_X9_refuses r σ).bind fun q => some (q.1, q.2)) = some (r, σ') ∧ IM (aRef k a) σ' ∧ aC (aRef k a) = aC a ∧ KCm (aC a) σ' ∧ frM σ σ' := by
  obtain ⟨σ', e1, e2, e3⟩ := m_refuses h hr
  rw [hk'] at e2
  refine ⟨σ', by rw [e1, z_bi], e2, rfl, hk.fr e3 (by simp), e3.toM (by simp)⟩
theorem frM.tr {a b d : HS} (h : frM a b) (h' : frM b d) : frM a d := fun o ho => (h' o ho).trans (h o ho)
theorem m_states {a : AS} {σ : HS} (h : IM a σ) (w : WA a) (hk : KCm (aC a) σ) : ∃ σ', f_X9_states σ = some ((aSts a).1, σ') ∧ IM (aSts a).2 σ' ∧ aC (aSts a).2 = aC a ∧ KCm (aC a) σ' ∧ frM σ σ' := by
  obtain ⟨σ1, a1, a2, a3, a4, a5⟩ := m_isMuch h w hk
  rw [f_X9_states, a1, z_bi]
  unfold aSts
  by_cases e : (LSt (aC a)).1 ≤ 150
  · rw [if_pos e, if_pos (show nI 0 = (0 : Int32) from rfl), if_pos e, a3.1.1]
    exact ⟨σ1, rfl, a2, rfl, a4, a5.M⟩
  · rw [if_neg e, if_neg (show ¬ nI 1 = (0 : Int32) by decide), if_neg e]
    obtain ⟨σ', e1, e2, e3, e4, e5⟩ := m_much a2 a4 (r := -5) (Or.inr (Or.inr (Or.inr rfl))) (k := 3) (by decide)
    exact ⟨σ', e1, e2, e3, e4, a5.M.tr e5⟩
theorem m_classes {a : AS} {σ : HS} (h : IM a σ) (w : WA a) (hk : KCm (aC a) σ) : ∃ σ', f_X9_classes σ = some ((aCls a).1, σ') ∧ IM (aCls a).2 σ' ∧ aC (aCls a).2 = aC a ∧ KCm (aC a) σ' ∧ frM σ σ' := by
  obtain ⟨σ1, a1, a2, a3, a4, a5⟩ := m_isMuch h w hk
  rw [f_X9_classes, a1, z_bi]
  unfold aCls
  by_cases e : (LSt (aC a)).1 ≤ 150
  · rw [if_pos e, if_pos (show nI 0 = (0 : Int32) from rfl), if_pos e, (a3.2 e).2.1]
    exact ⟨σ1, rfl, a2, rfl, a4, a5.M⟩
  · rw [if_neg e, if_neg (show ¬ nI 1 = (0 : Int32) by decide), if_neg e]
    obtain ⟨σ', e1, e2, e3, e4, e5⟩ := m_much a2 a4 (r := -5) (Or.inr (Or.inr (Or.inr rfl))) (k := 3) (by decide)
    exact ⟨σ', e1, e2, e3, e4, a5.M.tr e5⟩
theorem m_state {a : AS} {σ : HS} (h : IM a σ) (w : WA a) (hk : KCm (aC a) σ) (s x : Int32) : ∃ σ', f_X9_state s x σ = some ((aSt s x a).1, σ') ∧ IM (aSt s x a).2 σ' ∧ aC (aSt s x a).2 = aC a ∧ KCm (aC a) σ' ∧ frM σ σ' := by
  have hk5 := w.1.p_k
  have hg := (LSt_GD w.1).1
  have hb := m_much h hk (r := -2) (Or.inl rfl) (k := 0) (by decide)
  rw [f_X9_state]
  unfold aSt
  by_cases q1 : s.toInt < 0
  · rw [if_pos (by rw [z_ltI]; exact q1), if_neg (show ¬ (0 ≤ s.toInt ∧ 0 ≤ x.toInt ∧ x.toInt ≤ 3 + (aC a 0 : Int)) by omega)]; exact hb
  · rw [if_neg (by rw [z_ltI]; exact q1), z_0, z_ld (by omega) (by omega), z_bi, h.1 0 (by omega), m_in, z_bi, show (3 : Int32) + nI (aC a 0) = nI (3 + aC a 0) from z_add 3 _]
    by_cases q2 : 0 ≤ x.toInt ∧ x.toInt ≤ 3 + (aC a 0 : Int)
    · have eq2 : decide (nI 0 ≤ x ∧ x ≤ nI (3 + aC a 0)) = true := by
        rw [decide_eq_true_eq, z_leI, z_leI, z_ti (by omega), z_ti (by omega)]; omega
      rw [eq2, if_neg (show ¬ nI (b2 true) = nI 0 by decide), if_pos ⟨by omega, q2.1, q2.2⟩]
      obtain ⟨σ1, a1, a2, a3, a4, a5⟩ := m_isMuch h w hk
      rw [a1, z_bi]
      by_cases e : (LSt (aC a)).1 ≤ 150
      · rw [if_pos e, if_pos (show nI 0 = nI 0 from rfl), if_pos e, a3.1.1]
        by_cases g : s.toInt < (LSt (aC a)).1
        · rw [if_pos (by rw [z_ltI, z_ti (by omega)]; exact g), if_pos g]
          obtain ⟨m, b1, b2, b3⟩ := z_of (v := s) (by omega)
          obtain ⟨m', b1', b2', b3'⟩ := z_of (v := x) (by omega)
          rw [show s.toInt.toNat = m by omega, show x.toInt.toNat = m' by omega, b2, b2']
          unfold vSt
          by_cases e3 : m' < 3
          · have hF := (LSt_GD w.1).2.1 m (by omega)
            rw [if_neg (by rw [z_lit, z_le (by omega) (by omega)]; omega), if_pos e3, z_ld (by omega) (by omega), z_bi, a3.1.2 m (by omega)]
            refine ⟨σ1, ?_, a2, rfl, a4, a5.M⟩
            rw [show (4 : Int32) = nI 4 from rfl, show (31 : Int32) = nI 31 from rfl, show (15 : Int32) = nI 15 from rfl, z_mul, z_31 (by omega), z_shr (by omega) (by omega), z_and]
          · rw [if_pos (by rw [z_lit, z_le (by omega) (by omega)]; omega), if_neg e3]
            have ix : (6 : Int32) * nI m + nI m' - 3 = nI (6 * m + (m' - 3)) := by
              show nI 6 * nI m + nI m' - nI 3 = _
              rw [z_mul, z_add, z_sub (by omega)]; congr 1; omega
            rw [ix, z_ld (by omega) (by omega), z_bi]
            have o := (a3.2 e).1 m (m' - 3) (by omega) (by omega) e
            refine ⟨σ1, ?_, a2, rfl, a4, a5.M⟩
            rcases o with ⟨o1, o2⟩ | ⟨y, y1, y2, y3⟩
            · rw [o1, o2]; rfl
            · rw [y1, y3]; rfl
        · rw [if_neg (by rw [z_ltI, z_ti (by omega)]; exact g), if_neg g]
          obtain ⟨σ', e1, e2, e3, e4, e5⟩ := m_much a2 a4 (r := -2) (Or.inl rfl) (k := 0) (by decide)
          exact ⟨σ', e1, e2, e3, e4, a5.M.tr e5⟩
      · rw [if_neg e, if_neg (show ¬ nI 1 = nI 0 by decide), if_neg e]
        obtain ⟨σ', e1, e2, e3, e4, e5⟩ := m_much a2 a4 (r := -5) (Or.inr (Or.inr (Or.inr rfl))) (k := 3) (by decide)
        exact ⟨σ', e1, e2, e3, e4, a5.M.tr e5⟩
    · have eq2 : decide (nI 0 ≤ x ∧ x ≤ nI (3 + aC a 0)) = false := by
        rw [decide_eq_false_iff_not, z_leI, z_leI, z_ti (by omega), z_ti (by omega)]; omega
      rw [eq2, if_pos (show nI (b2 false) = nI 0 from rfl), if_neg (show ¬ (0 ≤ s.toInt ∧ 0 ≤ x.toInt ∧ x.toInt ≤ 3 + (aC a 0 : Int)) by omega)]; exact hb
theorem m_alike {a : AS} {σ : HS} (h : IM a σ) (w : WA a) (hk : KCm (aC a) σ) (s t : Int32) : ∃ σ', f_X9_alike s t σ = some ((aAl s t a).1, σ') ∧ IM (aAl s t a).2 σ' ∧ aC (aAl s t a).2 = aC a ∧ KCm (aC a) σ' ∧ frM σ σ' := by
  have hg := (LSt_GD w.1).1
  have hb := m_much h hk (r := -2) (Or.inl rfl) (k := 0) (by decide)
  rw [f_X9_alike]
  unfold aAl
  by_cases q1 : s.toInt < 0
  · rw [if_pos (by rw [z_ltI]; exact q1), if_neg (show ¬ (0 ≤ s.toInt ∧ 0 ≤ t.toInt) by omega)]; exact hb
  · rw [if_neg (by rw [z_ltI]; exact q1)]
    by_cases q2 : 0 ≤ t.toInt
    · rw [if_pos (by rw [z_leI]; exact q2), if_pos ⟨by omega, q2⟩]
      obtain ⟨σ1, a1, a2, a3, a4, a5⟩ := m_isMuch h w hk
      have bad : ∃ σ', ((f_X9_refuses (-2) σ1).bind fun q => some (q.1, q.2)) = some (-2, σ') ∧ IM (aRef 0 a) σ' ∧ aC (aRef 0 a) = aC a ∧ KCm (aC a) σ' ∧ frM σ σ' := by
        obtain ⟨σ', e1, e2, e3, e4, e5⟩ := m_much a2 a4 (r := -2) (Or.inl rfl) (k := 0) (by decide)
        exact ⟨σ', e1, e2, e3, e4, a5.M.tr e5⟩
      rw [a1, z_bi]
      by_cases e : (LSt (aC a)).1 ≤ 150
      · rw [if_pos e, if_pos (show nI 0 = (0 : Int32) from rfl), if_pos e, a3.1.1]
        by_cases g : s.toInt < (LSt (aC a)).1
        · rw [if_neg (by rw [z_leI, z_ti (by omega)]; omega)]
          by_cases g2 : t.toInt < (LSt (aC a)).1
          · rw [if_pos (by rw [z_ltI, z_ti (by omega)]; exact g2), if_pos ⟨g, g2⟩]
            obtain ⟨m, b1, b2, b3⟩ := z_of (v := s) (by omega)
            obtain ⟨m', b1', b2', b3'⟩ := z_of (v := t) (by omega)
            obtain ⟨G, d1, d2⟩ := (a3.2 e).2.2
            have o1 := d1 m (by omega)
            have o2 := d1 m' (by omega)
            have o3 := d2 m m' (by omega) (by omega)
            rw [show s.toInt.toNat = m by omega, show t.toInt.toNat = m' by omega, b2, b2', z_ld (by omega) (by omega), z_bi, z_ld (by omega) (by omega), z_bi, o1.2, o2.2]
            refine ⟨σ1, ?_, a2, rfl, a4, a5.M⟩
            by_cases z : sgs (aC a) (LSt (aC a)) m = sgs (aC a) (LSt (aC a)) m'
            · rw [if_pos (by rw [o3.mpr z])]; simp [z]; rfl
            · rw [if_neg (by rw [z_eq (by omega) (by omega)]; exact fun q => z (o3.mp q))]; simp [z]; rfl
          · rw [if_neg (by rw [z_ltI, z_ti (by omega)]; exact g2), if_neg (fun q => g2 q.2)]; exact bad
        · rw [if_pos (by rw [z_leI, z_ti (by omega)]; omega), if_neg (fun q => g q.1)]; exact bad
      · rw [if_neg e, if_neg (show ¬ nI 1 = (0 : Int32) by decide), if_neg e]
        obtain ⟨σ', e1, e2, e3, e4, e5⟩ := m_much a2 a4 (r := -5) (Or.inr (Or.inr (Or.inr rfl))) (k := 3) (by decide)
        exact ⟨σ', e1, e2, e3, e4, a5.M.tr e5⟩
    · rw [if_neg (by rw [z_leI]; exact q2), if_neg (show ¬ (0 ≤ s.toInt ∧ 0 ≤ t.toInt) by omega)]; exact hb
