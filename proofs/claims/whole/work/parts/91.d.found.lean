-- the reference's search of one length
theorem m_exchOut {c : Cf} {T : Nat → Nat} {P : Nat → Prop} {σ : HS} (h : MR c σ) (w : WF c) {x : Nat} (hz : BZ c T (fun i => P i ∨ i = x) σ) (hx : x < c 23) (ht : T x < 50) (hf : FRE c T P x (T x)) : ∃ σ', f_X9_exchange (nI x) (nI (T x)) σ = some σ' ∧ σ'.1 = σ.1 ∧ BZ c T P σ' := by
  have hc : ∀ u, ∃ b, u < 3 → b < 2 ^ 60 ∧ σ.2 79 u = lN b ∧ ∀ s, b.testBit s = true ↔ ∃ i, i < c 23 ∧ (P i ∨ i = x) ∧ T i ≤ s ∧ (hu c i u).testBit (s - T i) = true := by
    intro u
    by_cases q : u < 3
    · obtain ⟨b, hb⟩ := hz u q
      exact ⟨b, fun _ => hb⟩
    · exact ⟨0, fun e => absurd e q⟩
  obtain ⟨B, hB⟩ := Classical.axiomOfChoice hc
  obtain ⟨σ', a1, a2, a3⟩ := m_exch h w hx ht B (fun u hu => ⟨(hB u hu).1, (hB u hu).2.1⟩)
  refine ⟨σ', a1, a2, fun u hu3 => ⟨_, (a3 u hu3).1, (a3 u hu3).2, fun s => ?_⟩⟩
  rw [Nat.testBit_xor, Nat.testBit_shiftLeft]
  have hb := (hB u hu3).2.2 s
  cases q : (decide (T x ≤ s) && (hu c x u).testBit (s - T x)) with
  | true =>
    rw [Bool.and_eq_true, decide_eq_true_eq] at q
    rw [hb.mpr ⟨x, hx, Or.inr rfl, q.1, q.2⟩]
    constructor
    · intro e; cases e
    · rintro ⟨i, i1, i2, i3, i4⟩
      exact absurd ⟨u, hu3, s, ⟨i3, i4⟩, q.1, q.2⟩ (hf i i1 i2)
  | false =>
    rw [Bool.xor_false, hb]
    constructor
    · rintro ⟨i, i1, i2, i3, i4⟩
      rcases i2 with i2 | i2
      · exact ⟨i, i1, i2, i3, i4⟩
      · subst i2
        rw [i4] at q
        simp [i3] at q
    · rintro ⟨i, i1, i2, i3⟩
      exact ⟨i, i1, Or.inl i2, i3⟩
theorem MB_cg {c : Cf} {T T' : Nat → Nat} {i x t : Nat} (hi : ∀ j, j < i → T j = T' j) (h : MB c T (fun k => k < i) i x t) : MB c T' (fun k => k < i) i x t := by
  refine ⟨fun j hj hp q => h.1 j hj hp (by rw [hi j hp]; exact q), fun j hj => ?_, ?_⟩
  · have := h.2.1 j hj
    unfold prd at this ⊢
    rw [← hi j hj]; exact this
  · have : cnt T' t i = cnt T t i := fb_ct_cong (fun k hk => by rw [hi k hk])
    rw [this]; exact h.2.2
def ST (c : Cf) (l i : Nat) (T : Nat → Nat) (σ : HS) : Prop := MR c σ ∧ MW 76 77 c (wy c, ea c) σ ∧ TN 78 T i σ ∧ (∀ k, i < k → k < 6 → σ.1 78 k = -1) ∧ BZ c T (fun k => k < i) σ ∧ PM c T i ∧ ∀ j, j < i → T j + wy c j ≤ l
def FF (c : Cf) (l i s : Nat) (T T' : Nat → Nat) : Prop := QP c l T' ∧ (∀ j, j < i → T' j = T j) ∧ s ≤ T' i ∧ ∀ T'', QP c l T'' → (∀ j, j < i → T'' j = T j) → s ≤ T'' i → ∀ k, k < c 23 → (∀ j, j < k → T'' j = T' j) → T' k ≤ T'' k
def OUT (c : Cf) (l i s : Nat) (T : Nat → Nat) (n K : Nat) (σ : HS) (X : Option (Int32 × HS)) : Prop := (∃ T' σ', X = some (nI 1, σ') ∧ FF c l i s T T' ∧ TN 78 T' (c 23) σ' ∧ fr [78] σ σ') ∨ ((¬ ∃ T', QP c l T' ∧ (∀ j, j < i → T' j = T j) ∧ s ≤ T' i) ∧ ∃ n' σ', n ≤ n' + K ∧ X = f_X9_isFound_14 n' (nI l) (nI (c 23)) (nI i + (-1)) σ' ∧ ST c l i T σ' ∧ σ'.1 78 i = -1 ∧ fr [78] σ σ')
def Kc : Nat → Nat
  | 0 => 1
  | d + 1 => 50 * (Kc d + 2) + 2
theorem ST_fr {c : Cf} {l i : Nat} {T : Nat → Nat} {σ : HS} (h : ST c l i T σ) (v : Int32) (hi : i < 6) : ST c l i T (sI σ 78 i v) := by
  obtain ⟨h1, h2, h3, h4, h5, h6⟩ := h
  have f : fr [78] σ (sI σ 78 i v) := fr.sI (by simp)
  refine ⟨MR.fr h1 f (by simp), ?_, ?_, ?_, h5.fr rfl, h6⟩
  · intro x hx; rw [f 76 (by simp), f 77 (by simp)]; exact h2 x hx
  · intro j hj
    rw [s_I1]; unfold upd; rw [if_neg (by omega)]; exact h3 j hj
  · intro k k1 k2
    rw [s_I1]; unfold upd; rw [if_neg (by omega)]; exact h4 k k1 k2
def FG (c : Cf) (l i : Nat) (T T' : Nat → Nat) : Prop := QP c l T' ∧ (∀ j, j < i → T' j = T j) ∧ ∀ T'', QP c l T'' → (∀ j, j < i → T'' j = T j) → ∀ k, k < c 23 → (∀ j, j < k → T'' j = T' j) → T' k ≤ T'' k
def OUT2 (c : Cf) (l i : Nat) (T : Nat → Nat) (n K : Nat) (σ : HS) (X : Option (Int32 × HS)) : Prop := (∃ T' σ', X = some (nI 1, σ') ∧ FG c l i T T' ∧ TN 78 T' (c 23) σ' ∧ fr [78] σ σ') ∨ ((¬ ∃ T', QP c l T' ∧ ∀ j, j < i → T' j = T j) ∧ ∃ n' σ', n ≤ n' + K ∧ X = f_X9_isFound_14 n' (nI l) (nI (c 23)) (nI i + (-1)) σ' ∧ ST c l i T σ' ∧ σ'.1 78 i = -1 ∧ fr [78] σ σ')
theorem OUT.up {c : Cf} {l i s : Nat} {T : Nat → Nat} {n n2 K K2 : Nat} {σ σ2 : HS} {X : Option (Int32 × HS)} (hf : fr [78] σ σ2) (hno : ∀ T', QP c l T' → (∀ j, j < i → T' j = T j) → T' i ≠ s) (hK : n + K2 ≤ n2 + K) (h : OUT c l i (s + 1) T n2 K2 σ2 X) : OUT c l i s T n K σ X := by
  rcases h with ⟨T', σ', a1, a2, a3, a4⟩ | ⟨a1, n', σ', a2, a3, a4, a5, a6⟩
  · left
    refine ⟨T', σ', a1, ⟨a2.1, a2.2.1, by have := a2.2.2.1; omega, fun T'' b1 b2 b3 => ?_⟩, a3, hf.tr a4⟩
    have := hno T'' b1 b2
    exact a2.2.2.2 T'' b1 b2 (by omega)
  · right
    refine ⟨?_, n', σ', by omega, a3, a4, a5, hf.tr a6⟩
    rintro ⟨T', b1, b2, b3⟩
    have := hno T' b1 b2
    exact a1 ⟨T', b1, b2, by omega⟩
theorem m_level {c : Cf} (w : WF c) {l : Nat} (hl : l ≤ 40) (hw : ∀ i, i < c 23 → wy c i ≤ l) {i K : Nat} (hi : i < c 23) (hsub : ∀ n, K ≤ n → ∀ T σ, ST c l (i + 1) T σ → (i + 1 < 6 → σ.1 78 (i + 1) = -1) → OUT2 c l (i + 1) T n K σ (f_X9_isFound_14 n (nI l) (nI (c 23)) (nI (i + 1)) σ)) : ∀ s, s ≤ 50 → ∀ m, 50 < s + m → ∀ n, (50 - s) * (K + 2) + 1 ≤ n → ∀ T σ, ST c l i T σ → OUT c l i s T n ((50 - s) * (K + 2) + 1) σ (f_X9_isFound_73 (fun e18 e19 e20 e21 σ22 => f_X9_isFound_103 (f_X9_isFound_14 n) e18 e19 e20 e21 σ22) m (nI l) (nI (c 23)) (nI i) (nI s) σ) := by
  have hn := w.p_n
  have hwi := hw i hi
  have stop : ∀ s m n T σ K', l < s + wy c i → s ≤ 50 → 1 ≤ m → ST c l i T σ → OUT c l i s T n K' σ (f_X9_isFound_73 (fun e18 e19 e20 e21 σ22 => f_X9_isFound_103 (f_X9_isFound_14 n) e18 e19 e20 e21 σ22) m (nI l) (nI (c 23)) (nI i) (nI s) σ) := by
    intro s m n T σ K' h1 h2 h3 hS
    obtain ⟨m, rfl⟩ : ∃ k, m = k + 1 := ⟨m - 1, by omega⟩
    right
    refine ⟨?_, n, sI σ 78 i (-1), by omega, ?_, ST_fr hS (-1) (by omega), by rw [s_I1]; unfold upd; rw [if_pos rfl], fr.sI (by simp)⟩
    · rintro ⟨T', b1, b2, b3⟩
      have := b1.2 i hi
      omega
    · have e := (hS.2.1 i hi).1
      rw [f_X9_isFound_73, z_ld (by omega) (by omega), z_bi, e, z_sub hwi, if_pos (by rw [z_lt (by omega) (by omega)]; show l - wy c i < s; omega)]
      show f_X9_isFound_103 (f_X9_isFound_14 n) (nI l) (nI (c 23)) (nI i) (nI s) σ = _
      rw [f_X9_isFound_103, z_ld (by omega) (by omega), z_bi, e, z_sub hwi, if_pos (by rw [z_lt (by omega) (by omega)]; show l - wy c i < s; omega), z_st (by omega) (by omega), z_bi]
  refine dn_ind ?_ ?_
  · intro m hm n _ T σ hS
    exact stop 50 m n T σ _ (by omega) (by omega) (by omega) hS
  · intro s hs ih m hm n hN T σ hS
    by_cases e0 : l < s + wy c i
    · exact stop s m n T σ _ e0 (by omega) (by omega) hS
    · obtain ⟨m, rfl⟩ : ∃ k, m = k + 1 := ⟨m - 1, by omega⟩
      obtain ⟨e, he⟩ : ∃ e, 50 - s = e + 1 := ⟨50 - s - 1, by omega⟩
      have he' : 50 - (s + 1) = e := by omega
      rw [he'] at ih
      rw [he] at hN ⊢
      rw [Nat.succ_mul] at hN ⊢
      have ew := (hS.2.1 i hi).1
      obtain ⟨v, v1, v2, v3⟩ := m_mayBegin hS.1 w hS.2.2.2.2.1 (x := i) (t := s) (many := i) hS.2.2.1 hi (by omega) (by omega)
      rw [f_X9_isFound_73, z_ld (by omega) (by omega), z_bi, ew, z_sub hwi, if_neg (by rw [z_lt (by omega) (by omega)]; show ¬ l - wy c i < s; omega), v2, z_bi]
      by_cases ev : v = 0
      · rw [if_pos (by rw [ev]; rfl), show (1 : Int32) = nI 1 from rfl, z_add]
        refine OUT.up (fr.rf _ _) ?_ ?_ (ih m (by omega) n (by omega) T σ hS)
        · intro T' b1 b2 b3
          have := (PM_PL w T').mpr b1.1 i hi
          rw [b3] at this
          have := v3.mpr (MB_cg b2 this)
          omega
        · omega
      · have mb := v3.mp (by omega)
        rw [if_neg (by rw [z_0, z_eq (by omega) (by omega)]; exact ev)]
        show OUT c l i s T n _ σ (f_X9_isFound_103 (f_X9_isFound_14 n) (nI l) (nI (c 23)) (nI i) (nI s) σ)
        rw [f_X9_isFound_103, z_ld (by omega) (by omega), z_bi, ew, z_sub hwi, if_neg (by rw [z_lt (by omega) (by omega)]; show ¬ l - wy c i < s; omega), z_st (by omega) (by omega), z_bi]
        have hS1 := ST_fr hS (nI s) (by omega)
        have f1 : fr [78] σ (sI σ 78 i (nI s)) := fr.sI (by simp)
        obtain ⟨σ2, a1, a2, a3⟩ := m_exchange hS1.1 w hS1.2.2.2.2.1 hi (t := s) (by omega) mb.1 (by omega)
        have ag : ∀ j, j < i → un T i s j = T j := fun j hj => by unfold un; rw [if_neg (by omega)]
        have at' : un T i s i = s := by unfold un; rw [if_pos rfl]
        have f2 : fr [78] σ σ2 := fun o ho => by rw [a2]; exact f1 o ho
        have c78 : ∀ k, σ2.1 78 k = if k = i then nI s else σ.1 78 k := fun k => by rw [a2, s_I1]; rfl
        have hS2 : ST c l (i + 1) (un T i s) σ2 := by
          refine ⟨MR.fr hS.1 f2 (by simp), ?_, ?_, ?_, a3.cg (fun k _ => ⟨fun q => by omega, fun q => by omega⟩) (fun _ _ _ => rfl), ?_, ?_⟩
          · intro x hx; rw [f2 76 (by simp), f2 77 (by simp)]; exact hS.2.1 x hx
          · intro j hj
            rw [c78]
            by_cases q : j = i
            · rw [if_pos q, q, at']; exact ⟨by omega, rfl⟩
            · rw [if_neg q, ag j (by omega)]; exact hS.2.2.1 j (by omega)
          · intro k k1 k2
            rw [c78, if_neg (by omega)]; exact hS.2.2.2.1 k (by omega) k2
          · intro y hy
            by_cases q : y = i
            · rw [q, at']; exact MB_cg (fun j hj => (ag j hj).symm) mb
            · rw [ag y (by omega)]
              exact MB_cg (fun j hj => (ag j (by omega)).symm) (hS.2.2.2.2.2.1 y (by omega))
          · intro j hj
            by_cases q : j = i
            · rw [q, at']; omega
            · rw [ag j (by omega)]; exact hS.2.2.2.2.2.2 j (by omega)
        show OUT c l i s T n _ σ ((f_X9_exchange (nI i) (nI s) (sI σ 78 i (nI s))).bind fun σ16 => f_X9_isFound_14 n (nI l) (nI (c 23)) (nI i + 1) σ16)
        rw [a1, z_bi, show (1 : Int32) = nI 1 from rfl, z_add]
        rcases hsub n (by omega) _ σ2 hS2 (fun q => by rw [c78, if_neg (by omega)]; exact hS.2.2.2.1 (i + 1) (by omega) q) with ⟨T', σ', b1, b2, b3, b4⟩ | ⟨b1, n', σ', b2, b3, b4, b5, b6⟩
        · left
          have g : ∀ j, j < i → T' j = T j := fun j hj => by rw [b2.2.1 j (by omega), ag j hj]
          have gi : T' i = s := by rw [b2.2.1 i (by omega), at']
          refine ⟨T', σ', b1, ⟨b2.1, g, by omega, fun T'' d1 d2 d3 k hk d4 => ?_⟩, b3, f2.tr b4⟩
          rcases Nat.lt_trichotomy k i with q | q | q
          · rw [g k q, d2 k q]; exact Nat.le_refl _
          · rw [q, gi]; exact d3
          · exact b2.2.2 T'' d1 (fun j hj => by rw [d4 j (by omega), b2.2.1 j hj]) k hk d4
        · obtain ⟨n', rfl⟩ : ∃ k, n' = k + 1 := ⟨n' - 1, by omega⟩
          have b7 := b4.2.2.1 i (by omega)
          rw [at'] at b7
          have hz := b4.2.2.2.2.1.cg (T' := un T i s) (P' := fun k => k < i ∨ k = i) (fun k _ => ⟨fun q => by omega, fun q => by omega⟩) (fun _ _ _ => rfl)
          have hf : FRE c (un T i s) (fun k => k < i) i (un T i s i) := by
            rw [at']; exact (MB_cg (fun j hj => (ag j hj).symm) mb).1
          obtain ⟨σ3, k1, k2, k3⟩ := m_exchOut b4.1 w hz hi (by omega) hf
          rw [at'] at k1
          have f3 : fr [78] σ σ3 := fun o ho => by rw [k2]; exact (f2.tr b6) o ho
          have hS3 : ST c l i T σ3 := by
            refine ⟨MR.fr hS.1 f3 (by simp), ?_, ?_, ?_, k3.cg (fun k _ => Iff.rfl) (fun k _ hk => ag k hk), hS.2.2.2.2.2⟩
            · intro x hx; rw [f3 76 (by simp), f3 77 (by simp)]; exact hS.2.1 x hx
            · intro j hj
              rw [k2, ← ag j hj]; exact b4.2.2.1 j (by omega)
            · intro k q1 q2
              rw [k2]
              by_cases q : k = i + 1
              · rw [q]; exact b5
              · exact b4.2.2.2.1 k (by omega) q2
          have ei : nI (i + 1) + (-1) = nI i := by
            show nI (i + 1) + -nI 1 = _
            rw [← Int32.sub_eq_add_neg, z_sub (by omega)]; rfl
          rw [b3, ei, f_X9_isFound_14, if_neg (by rw [z_0, z_lt (by omega) (by omega)]; omega), if_neg (by rw [z_le (by omega) (by omega)]; omega), z_ld (by omega) (by omega), z_bi, b7.2, if_neg (show ¬ nI s = -1 from z_ne (by omega) (k := 1) (by omega)), z_bi, k1, z_bi, f_X9_isFound_44, k2, z_ld (by omega) (by omega), z_bi, b7.2, if_neg (show ¬ nI s = -1 from z_ne (by omega) (k := 1) (by omega)), z_bi, show (1 : Int32) = nI 1 from rfl, z_add]
          refine OUT.up f3 ?_ ?_ (ih FU (by have := FU_b; omega) n' (by omega) T σ3 hS3)
          · intro T' d1 d2 d3
            refine b1 ⟨T', d1, fun j hj => ?_⟩
            by_cases q : j = i
            · rw [q, at', d3]
            · rw [ag j (by omega)]; exact d2 j (by omega)
          · omega
theorem m_found {c : Cf} (w : WF c) {l : Nat} (hl : l ≤ 40) (hw : ∀ i, i < c 23 → wy c i ≤ l) : ∀ d i, i + d = c 23 → ∀ n, Kc d ≤ n → ∀ T σ, ST c l i T σ → (i < 6 → σ.1 78 i = -1) → OUT2 c l i T n (Kc d) σ (f_X9_isFound_14 n (nI l) (nI (c 23)) (nI i) σ) := by
  have hn := w.p_n
  intro d
  induction d with
  | zero =>
    intro i hi n hn' T σ hS _
    have hn2 : 1 ≤ n := hn'
    obtain ⟨n, rfl⟩ : ∃ m, n = m + 1 := ⟨n - 1, by omega⟩
    left
    have e : i = c 23 := by omega
    refine ⟨T, σ, ?_, ⟨⟨(PM_PL w T).mp (by rw [← e]; exact hS.2.2.2.2.2.1), fun j hj => hS.2.2.2.2.2.2 j (by omega)⟩, fun _ _ => rfl, fun T'' _ d2 k hk _ => by rw [d2 k (by omega)]; exact Nat.le_refl _⟩, by rw [← e]; exact hS.2.2.1, fr.rf _ _⟩
    rw [f_X9_isFound_14, if_neg (by rw [z_0, z_lt (by omega) (by omega)]; omega), if_pos (by rw [z_le (by omega) (by omega)]; omega), f_X9_isFound_150, if_pos (by rw [e])]
    rfl
  | succ d ih =>
    intro i hi n hn' T σ hS h78
    have hn2 : 50 * (Kc d + 2) + 2 ≤ n := hn'
    obtain ⟨n, rfl⟩ : ∃ m, n = m + 1 := ⟨n - 1, by omega⟩
    have hlev := m_level w hl hw (i := i) (K := Kc d) (by omega) (ih (i + 1) (by omega)) (ea c i) (by have := ea_b w (show i < c 23 by omega); omega) FU (by have := FU_b; omega) n (by
      have : (50 - ea c i) * (Kc d + 2) ≤ 50 * (Kc d + 2) := Nat.mul_le_mul_right _ (by omega)
      omega) T σ hS
    have hmul : (50 - ea c i) * (Kc d + 2) ≤ 50 * (Kc d + 2) := Nat.mul_le_mul_right _ (by omega)
    have e8 := h78 (by omega)
    rw [f_X9_isFound_14, if_neg (by rw [z_0, z_lt (by omega) (by omega)]; omega), if_neg (by rw [z_le (by omega) (by omega)]; omega), z_ld (by omega) (by omega), z_bi, e8, if_pos rfl, f_X9_isFound_44, z_ld (by omega) (by omega), z_bi, e8, if_pos rfl, z_ld (by omega) (by omega), z_bi, (hS.2.1 i (by omega)).2]
    rcases hlev with ⟨T', σ', a1, a2, a3, a4⟩ | ⟨a1, n', σ', a2, a3, a4, a5, a6⟩
    · left
      exact ⟨T', σ', a1, ⟨a2.1, a2.2.1, fun T'' b1 b2 => a2.2.2.2 T'' b1 b2 (PL_ea w b1.1 i (by omega))⟩, a3, a4⟩
    · right
      refine ⟨?_, n', σ', ?_, a3, a4, a5, a6⟩
      · rintro ⟨T', b1, b2⟩
        exact a1 ⟨T', b1, b2, PL_ea w b1.1 i (by omega)⟩
      · show n + 1 ≤ n' + (50 * (Kc d + 2) + 2)
        omega
theorem m_isFound {c : Cf} (w : WF c) {l : Nat} (hl : l ≤ 40) (hw : ∀ i, i < c 23 → wy c i ≤ l) {σ : HS} (h : MR c σ) (hm : MW 76 77 c (wy c, ea c) σ) : ∃ σ', fr [78] σ σ' ∧ ((∃ T, f_X9_isFound (nI l) σ = some (nI 1, σ') ∧ LF c l T ∧ TN 78 T (c 23) σ') ∨ (f_X9_isFound (nI l) σ = some (nI 0, σ') ∧ ¬ ∃ T, QP c l T)) := by
  have hn := w.p_n
  obtain ⟨σ1, a1, a2, a3, a4⟩ := m_clearAll (c := c) (fun _ => 0) σ
  have hS : ST c l 0 (fun _ => 0) σ1 := by
    refine ⟨MR.fr h a2 (by simp), ?_, fun j hj => by omega, fun k _ hk => a3 k hk, a4.cg (fun k _ => ⟨fun q => q.elim, fun q => by omega⟩) (fun _ _ _ => rfl), fun x hx => by omega, fun j hj => by omega⟩
    intro x hx; rw [a2 76 (by simp), a2 77 (by simp)]; exact hm x hx
  have hk : ∀ d, d ≤ 6 → Kc d ≤ 100000000000 := by
    intro d hd
    rcases (show d = 0 ∨ d = 1 ∨ d = 2 ∨ d = 3 ∨ d = 4 ∨ d = 5 ∨ d = 6 by omega) with q | q | q | q | q | q | q <;> subst q <;> decide
  have r := m_found w hl hw (c 23) 0 (by omega) FU (by have := hk (c 23) hn; have := FU_b; omega) _ σ1 hS (fun _ => a3 0 (by omega))
  rw [f_X9_isFound, show (23 : Int32) = nI 23 from rfl, z_ld (by omega) (by omega), z_bi, h 23 (by omega), a1, z_bi]
  rw [show nI 0 = (0 : Int32) from rfl] at r
  rcases r with ⟨T', σ', b1, b2, b3, b4⟩ | ⟨b1, n', σ', b2, b3, b4, b5, b6⟩
  · exact ⟨σ', a2.tr b4, Or.inl ⟨T', b1, ⟨b2.1, fun i hi T'' d1 d2 => b2.2.2 T'' d1 (fun j hj => by omega) i hi d2⟩, b3⟩⟩
  · refine ⟨σ', a2.tr b6, Or.inr ⟨?_, fun ⟨T, hT⟩ => b1 ⟨T, hT, fun j hj => by omega⟩⟩⟩
    have hn3 : 1 ≤ n' := by have := hk (c 23) hn; have := FU_b; omega
    obtain ⟨n', rfl⟩ : ∃ k, n' = k + 1 := ⟨n' - 1, by omega⟩
    rw [b3, f_X9_isFound_14, if_pos (show nI 0 + (-1) < 0 by decide), f_X9_isFound_150, if_neg (show ¬ (nI 0 + (-1) = nI (c 23)) from fun q => z_ne (a := c 23) (by omega) (k := 1) (by omega) q.symm)]
    rfl
