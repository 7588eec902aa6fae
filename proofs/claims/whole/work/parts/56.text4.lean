-- the reference while it reads
theorem z_m1 : (-nI 1 : Int32) = -1 := rfl
def TM (L : Nat) (tx : Nat → Nat) (p : Nat) (f : Int32) (o : Nat) (σ : HS) : Prop := L ≤ 120 ∧ (∀ k, k < L → tx k < 128) ∧ p ≤ L ∧ o ≤ 40 ∧ σ.1 67 18 = nI L ∧ σ.1 67 19 = nI p ∧ σ.1 67 20 = f ∧ σ.1 67 21 = nI o ∧ ∀ k, k < L → σ.1 81 k = nI (tx k)
/-- only places, faults and orders change -/
def fT (σ σ' : HS) : Prop := fr [67, 82, 83] σ σ' ∧ ∀ k, k < 19 → σ'.1 67 k = σ.1 67 k
theorem fT.rf (σ : HS) : fT σ σ := ⟨fr.rf _ _, fun _ _ => rfl⟩
theorem fT.tr {a b c : HS} (h1 : fT a b) (h2 : fT b c) : fT a c := ⟨h1.1.tr h2.1, fun k hk => (h2.2 k hk).trans (h1.2 k hk)⟩
theorem fT.i67 {σ : HS} {k : Nat} {x : Int32} (hk : 19 ≤ k) : fT σ (sI σ 67 k x) := ⟨fr.sI (by simp), fun j hj => by rw [s_I1, u_2 _ _ (by omega)]⟩
theorem fT.i82 {σ : HS} {k : Nat} {x : Int32} : fT σ (sI σ 82 k x) := ⟨fr.sI (by simp), fun j hj => by rw [s_I2 _ _ _ (by omega)]⟩
theorem fT.i83 {σ : HS} {k : Nat} {x : Int32} : fT σ (sI σ 83 k x) := ⟨fr.sI (by simp), fun j hj => by rw [s_I2 _ _ _ (by omega)]⟩
theorem TM.put {L : Nat} {tx : Nat → Nat} {p : Nat} {f : Int32} {o : Nat} {σ : HS} (h : TM L tx p f o σ) {q : Nat} (hq : q ≤ L) : TM L tx q f o (sI σ 67 19 (nI q)) := by
  obtain ⟨h1, h2, h3, h4, h5, h6, h7, h8, h9⟩ := h
  refine ⟨h1, h2, hq, h4, ?_, ?_, ?_, ?_, ?_⟩
  · rw [s_I1, u_2 _ _ (by omega)]; exact h5
  · rw [s_I1, u_1]
  · rw [s_I1, u_2 _ _ (by omega)]; exact h7
  · rw [s_I1, u_2 _ _ (by omega)]; exact h8
  · rw [s_I2 _ _ _ (by omega)]; exact h9
theorem TM.flt {L : Nat} {tx : Nat → Nat} {p : Nat} {f : Int32} {o : Nat} {σ : HS} (h : TM L tx p f o σ) (g : Int32) : TM L tx p g o (sI σ 67 20 g) := by
  obtain ⟨h1, h2, h3, h4, h5, h6, h7, h8, h9⟩ := h
  refine ⟨h1, h2, h3, h4, ?_, ?_, ?_, ?_, ?_⟩
  · rw [s_I1, u_2 _ _ (by omega)]; exact h5
  · rw [s_I1, u_2 _ _ (by omega)]; exact h6
  · rw [s_I1, u_1]
  · rw [s_I1, u_2 _ _ (by omega)]; exact h8
  · rw [s_I2 _ _ _ (by omega)]; exact h9
theorem TM.oth {L : Nat} {tx : Nat → Nat} {p : Nat} {f : Int32} {o : Nat} {σ : HS} (h : TM L tx p f o σ) {A k : Nat} {x : Int32} (hA : A = 82 ∨ A = 83) : TM L tx p f o (sI σ A k x) := by
  unfold TM
  rw [s_I2 _ _ _ (show (67 : Nat) ≠ A by omega), s_I2 _ _ _ (show (81 : Nat) ≠ A by omega)]
  exact h
theorem m_here {L : Nat} {tx : Nat → Nat} {p : Nat} {f : Int32} {o : Nat} {σ : HS} (h : TM L tx p f o σ) : ∃ σ', f_X9_here σ = some (if sk L tx p < L then nI (tx (sk L tx p)) else -1, σ') ∧ TM L tx (sk L tx p) f o σ' ∧ fT σ σ' ∧ σ'.1 82 = σ.1 82 ∧ σ'.1 83 = σ.1 83 := by
  have h38 : ∀ (p : Nat) (σ : HS), TM L tx p f o σ → f_X9_here_38 σ = some (if p < L then nI (tx p) else -1, σ) := by
    intro p σ h
    obtain ⟨h1, h2, h3, h4, h5, h6, h7, h8, h9⟩ := h
    rw [f_X9_here_38, h5, h6]
    simp (disch := omega) only [z_le]
    by_cases q : p < L
    · rw [if_neg (by omega), if_pos q]
      simp (disch := omega) only [z_ld, h9, z_bi]
    · rw [if_pos (by omega), if_neg q]
  have key : ∀ (m p : Nat) (n : Nat) (σ : HS), L + 1 ≤ p + m → L < p + n → TM L tx p f o σ → ∃ σ', f_X9_here_0 n σ = some (if skF L tx m p < L then nI (tx (skF L tx m p)) else -1, σ') ∧ TM L tx (skF L tx m p) f o σ' ∧ fT σ σ' ∧ σ'.1 82 = σ.1 82 ∧ σ'.1 83 = σ.1 83 := by
    intro m
    induction m with
    | zero => intro p n σ hm hn h; have := h.2.2.1; omega
    | succ m ih =>
      intro p n σ hm hn h
      obtain ⟨h1, h2, h3, h4, h5, h6, h7, h8, h9⟩ := id h
      obtain ⟨n, rfl⟩ : ∃ m, n = m + 1 := ⟨n - 1, by omega⟩
      rw [f_X9_here_0, h5, h6]
      simp (disch := omega) only [z_lit, z_le]
      by_cases q : p < L
      · have := h2 p q
        rw [if_neg (by omega)]
        simp (disch := omega) only [z_ld, h9, z_bi, z_eq, z_add]
        by_cases q2 : tx p = 32
        · have hs : skF L tx (m + 1) p = skF L tx m (p + 1) := by rw [skF, if_pos ⟨q, q2⟩]
          rw [if_pos q2, hs]
          obtain ⟨σ', e1, e2, e3, e4, e5⟩ := ih (p + 1) n _ (by omega) (by omega) (h.put (q := p + 1) (by omega))
          exact ⟨σ', e1, e2, (fT.i67 (by omega)).tr e3, by rw [e4, s_I2 _ _ _ (by omega)], by rw [e5, s_I2 _ _ _ (by omega)]⟩
        · have hs : skF L tx (m + 1) p = p := by rw [skF, if_neg (fun hh => q2 hh.2)]
          rw [if_neg q2, hs, h38 p σ h]
          exact ⟨σ, rfl, h, fT.rf _, rfl, rfl⟩
      · have hs : skF L tx (m + 1) p = p := by rw [skF, if_neg (fun hh => q hh.1)]
        rw [if_pos (by omega), hs, h38 p σ h]
        exact ⟨σ, rfl, h, fT.rf _, rfl, rfl⟩
  have hL := h.1
  exact key 200 p FU σ (by omega) (by have := FU_b; omega) h
theorem m_isFigure {L : Nat} {tx : Nat → Nat} {p : Nat} {f : Int32} {o : Nat} {σ : HS} (h : TM L tx p f o σ) : f_X9_isFigure σ = some (nI (b2 (fig L tx p)), σ) := by
  obtain ⟨h1, h2, h3, h4, h5, h6, h7, h8, h9⟩ := h
  rw [f_X9_isFigure, h5, h6]
  simp (disch := omega) only [z_lit, z_le]
  by_cases q : p < L
  · have := h2 p q
    rw [if_neg (by omega)]
    simp (disch := omega) only [z_ld, h9, z_bi, m_inR, b2_0]
    rw [show okR ((48 : Nat) : Int) ((57 : Nat) : Int) (nI (tx p)) = fig L tx p from ?_]
    · cases fig L tx p <;> rfl
    · unfold okR fig
      rw [z_ti (by omega), decide_eq_decide]
      omega
  · rw [if_pos (by omega)]
    have : fig L tx p = false := fig_f.mpr (by omega)
    rw [this]; rfl
theorem m_must {L : Nat} {tx : Nat → Nat} {p : Nat} {o : Nat} {σ : HS} (h : TM L tx p (-1) o σ) (b : Bool) : f_X9_must (nI (b2 b)) σ = some (if b then σ else sI σ 67 20 (nI p)) := by
  obtain ⟨h1, h2, h3, h4, h5, h6, h7, h8, h9⟩ := h
  rw [f_X9_must, h7, if_pos rfl, h6]
  simp only [z_lit, b2_0]
  cases b <;> rfl
theorem m_must2 {L : Nat} {tx : Nat → Nat} {p g : Nat} {o : Nat} {σ : HS} (h : TM L tx p (nI g) o σ) (hg : g ≤ 120) (x : Int32) : f_X9_must x σ = some σ := by
  obtain ⟨h1, h2, h3, h4, h5, h6, h7, h8, h9⟩ := h
  have hne : ¬ nI g = -1 := z_ne (by omega) (k := 1) (by omega)
  rw [f_X9_must, h7, if_neg hne]
theorem m_figures {L : Nat} {tx : Nat → Nat} {p : Nat} {o : Nat} {σ : HS} (h : TM L tx p (-1) o σ) : ∃ v σ', f_X9_figures σ = some (v, σ') ∧ TM L tx (nuE L tx (sk L tx p)) (if nuOk L tx (sk L tx p) then -1 else nI (nuE L tx (sk L tx p))) o σ' ∧ fT σ σ' ∧ σ'.1 82 = σ.1 82 ∧ σ'.1 83 = σ.1 83 ∧ (nuOk L tx (sk L tx p) = true → v = nI (nuV L tx (sk L tx p))) := by
  obtain ⟨σ1, e1, e2, e3, e4, e5⟩ := m_here h
  rw [f_X9_figures, e1]
  simp only [z_bi, z_lit]
  simp only [z_m1]
  generalize hs : sk L tx p = s at *
  obtain ⟨t1, t2, t3, t4, t5, t6, t7, t8, t9⟩ := id e2
  -- the end of it
  have h65 : ∀ (q : Nat) (x : Int32) (τ : HS), TM L tx q (-1) o τ → ∃ τ', f_X9_figures_65 x τ = some (x, τ') ∧ TM L tx q (if fig L tx q then nI q else -1) o τ' ∧ fT τ τ' ∧ τ'.1 82 = τ.1 82 ∧ τ'.1 83 = τ.1 83 := by
    intro q x τ hτ
    rw [f_X9_figures_65, m_isFigure hτ]
    simp only [z_bi, z_lit, b2_0]
    cases hf : fig L tx q with
    | false =>
      simp only [if_true, Bool.false_eq_true, if_false]
      rw [show nI 1 = nI (b2 true) from rfl, m_must hτ true]
      exact ⟨τ, rfl, hτ, fT.rf _, rfl, rfl⟩
    | true =>
      simp only [Bool.true_eq_false, if_false, if_true]
      rw [show nI 0 = nI (b2 false) from rfl, m_must hτ false]
      exact ⟨_, rfl, hτ.flt _, fT.i67 (by omega), s_I2 _ _ _ (by omega), s_I2 _ _ _ (by omega)⟩
  have hin : f_X9_in (if s < L then nI (tx s) else -1) (nI 48) (nI 57) σ1 = some (nI (b2 (fig L tx s)), σ1) := by
    rw [m_inR (by omega) (by omega)]
    congr 4
    by_cases q : s < L
    · have := t2 s q
      rw [if_pos q]
      unfold okR fig
      rw [z_ti (by omega), decide_eq_decide]
      omega
    · rw [if_neg q]
      rw [fig_f.mpr (by omega)]
      rfl
  rw [hin]
  simp only [z_bi]
  rw [m_must e2]
  simp only [z_bi]
  cases hf : fig L tx s with
  | false =>
    have k1 : nuOk L tx s = false := by unfold nuOk; rw [hf]; rfl
    have k2 : nuE L tx s = s := by unfold nuE; rw [hf]; rfl
    simp only [Bool.false_eq_true, if_false]
    have hτ := e2.flt (nI s)
    rw [FU_s 1 (by omega), f_X9_figures_19]
    simp (disch := omega) only [z_lit, z_le]
    rw [if_neg (by omega), m_isFigure hτ, hf]
    simp only [z_bi, b2_0, if_true]
    rw [f_X9_figures_65, m_isFigure hτ, hf]
    simp only [z_bi, z_lit, b2_0, if_true]
    rw [m_must2 hτ (by omega)]
    simp only [z_bi]
    rw [k1, k2]
    exact ⟨_, _, rfl, hτ, e3.tr (fT.i67 (by omega)), by rw [s_I2 _ _ _ (by omega)]; exact e4, by rw [s_I2 _ _ _ (by omega)]; exact e5, fun hh => by cases hh⟩
  | true =>
    have hp := fig_t.mp hf
    simp only [if_true]
    rw [FU_s 3 (by omega), f_X9_figures_19]
    simp (disch := omega) only [z_lit, z_le]
    rw [if_neg (by omega), m_isFigure e2, hf]
    simp only [z_bi, b2_0, Bool.true_eq_false, if_false]
    rw [t6]
    simp (disch := omega) only [z_ld, t9, z_bi, z_mul, z_add, z_sub]
    have h2 := e2.put (q := s + 1) (by omega)
    rw [f_X9_figures_19]
    simp (disch := omega) only [z_lit, z_le]
    rw [if_neg (by omega), m_isFigure h2]
    simp only [z_bi, b2_0]
    cases hf2 : fig L tx (s + 1) with
    | false =>
      simp only [if_true]
      obtain ⟨τ', g1, g2, g3, g4, g5⟩ := h65 (s + 1) (nI (10 * 0 + tx s - 48)) _ h2
      rw [g1]
      have k1 : nuOk L tx s = true := by unfold nuOk; rw [hf, hf2]; rfl
      have k2 : nuE L tx s = s + 1 := by unfold nuE; rw [hf, hf2]; rfl
      have k3 : nuV L tx s = tx s - 48 := by unfold nuV; rw [hf2]; rfl
      rw [k1, k2, k3]
      rw [hf2] at g2
      exact ⟨_, τ', rfl, g2, (e3.tr (fT.i67 (by omega))).tr g3, by rw [g4, s_I2 _ _ _ (by omega)]; exact e4, by rw [g5, s_I2 _ _ _ (by omega)]; exact e5, fun _ => by congr 1; omega⟩
    | true =>
      have hp2 := fig_t.mp hf2
      simp only [Bool.true_eq_false, if_false]
      have t6' : (sI σ1 67 19 (nI (s + 1))).1 67 19 = nI (s + 1) := by rw [s_I1, u_1]
      have t9' : (sI σ1 67 19 (nI (s + 1))).1 81 (s + 1) = nI (tx (s + 1)) := by rw [s_I2 _ _ _ (by omega)]; exact t9 _ hp2.1
      rw [t6']
      simp (disch := omega) only [z_ld, t9', z_bi, z_mul, z_add, z_sub]
      have h3 := h2.put (q := s + 1 + 1) (by omega)
      rw [f_X9_figures_19]
      simp (disch := omega) only [z_lit, z_le]
      rw [if_pos (by omega)]
      obtain ⟨τ', g1, g2, g3, g4, g5⟩ := h65 (s + 1 + 1) (nI (10 * (10 * 0 + tx s - 48) + tx (s + 1) - 48)) _ h3
      rw [g1]
      have k1 : nuOk L tx s = !fig L tx (s + 1 + 1) := by unfold nuOk; rw [hf, hf2]; simp
      have k2 : nuE L tx s = s + 1 + 1 := by unfold nuE; rw [hf, hf2]; rfl
      have k3 : nuV L tx s = (tx s - 48) * 10 + (tx (s + 1) - 48) := by unfold nuV; rw [hf2]; rfl
      rw [k1, k2, k3]
      refine ⟨_, τ', rfl, ?_, ((e3.tr (fT.i67 (by omega))).tr (fT.i67 (by omega))).tr g3, by rw [g4, s_I2 _ _ _ (by omega), s_I2 _ _ _ (by omega)]; exact e4, by rw [g5, s_I2 _ _ _ (by omega), s_I2 _ _ _ (by omega)]; exact e5, fun _ => by congr 1; omega⟩
      cases hf3 : fig L tx (s + 1 + 1) with
      | false => rw [hf3] at g2; exact g2
      | true => rw [hf3] at g2; exact g2
