-- plans
def prd (c : Cf) (T : Nat → Nat) (x j t : Nat) : Prop := (ct c x j ≠ 0 → T j + dd c x j ≤ t) ∧ (ct c j x ≠ 0 → t + dd c j x ≤ T j)
def cnt (T : Nat → Nat) (t n : Nat) : Nat := fb_ct (fun j => decide (T j = t)) n
theorem cnt_le (T : Nat → Nat) (t n : Nat) : cnt T t n ≤ n := fb_ct_le _ n
theorem cnt_s (T : Nat → Nat) (t n : Nat) : cnt T t (n + 1) = cnt T t n + (if T n = t then 1 else 0) := by
  unfold cnt; rw [fb_ct_succ]
  by_cases e : T n = t <;> simp [e]
/-- what is asked of one that begins behind the first -/
def MB (c : Cf) (T : Nat → Nat) (P : Nat → Prop) (many x t : Nat) : Prop := FRE c T P x t ∧ (∀ j, j < many → prd c T x j t) ∧ 1 + cnt T t many ≤ c 21
def PL (c : Cf) (T : Nat → Nat) : Prop := (∀ i j, i < c 23 → j < c 23 → ct c i j ≠ 0 → T j + dd c i j ≤ T i) ∧ (∀ i j, i < c 23 → j < c 23 → i ≠ j → ¬ CL c i (T i) j (T j)) ∧ ∀ i, i < c 23 → cnt T (T i) (c 23) ≤ c 21
def PM (c : Cf) (T : Nat → Nat) (m : Nat) : Prop := ∀ x, x < m → MB c T (fun i => i < x) x x (T x)
theorem ct_ii {c : Cf} (w : WF c) {i : Nat} (hi : i < 6) : ct c i i = 0 := by
  unfold ct
  rw [w.p_nz hi hi (Or.inr (Or.inr rfl))]
  split <;> rfl
theorem cnt_mono (T : Nat → Nat) (t : Nat) {a b : Nat} (h : a ≤ b) : cnt T t a ≤ cnt T t b := by
  induction b with
  | zero => rw [show a = 0 by omega]; exact Nat.le_refl _
  | succ b ih =>
    by_cases e : a = b + 1
    · rw [e]; exact Nat.le_refl _
    · rw [cnt_s]; have := ih (by omega); omega
theorem PM_PL {c : Cf} (w : WF c) (T : Nat → Nat) : PM c T (c 23) ↔ PL c T := by
  have hn := w.p_n
  constructor
  · intro h
    refine ⟨fun i j hi hj hc => ?_, fun i j hi hj hne hc => ?_, fun i hi => ?_⟩
    · rcases Nat.lt_trichotomy i j with q | q | q
      · exact ((h j hj).2.1 i q).2 hc
      · subst q; exact absurd (ct_ii w (by omega)) hc
      · exact ((h i hi).2.1 j q).1 hc
    · rcases Nat.lt_trichotomy i j with q | q | q
      · exact (h j hj).1 i hi q hc
      · exact hne q
      · exact (h i hi).1 j hj q hc.sym
    · have g : ∀ n, n ≤ c 23 → cnt T (T i) n ≤ c 21 := by
        intro n
        induction n with
        | zero => intro _; exact Nat.zero_le _
        | succ n ih =>
          intro hn'
          rw [cnt_s]
          by_cases e : T n = T i
          · have := (h n (by omega)).2.2
            rw [e] at this
            rw [if_pos e]; omega
          · rw [if_neg e]; exact ih (by omega)
      exact g _ (Nat.le_refl _)
  · rintro ⟨h1, h2, h3⟩ x hx
    refine ⟨fun i hi hp hc => h2 i x hi hx (by omega) hc, fun j hj => ⟨fun q => h1 x j hx (by omega) q, fun q => h1 j x (by omega) hx q⟩, ?_⟩
    have := h3 x hx
    have g := cnt_mono T (T x) (show x + 1 ≤ c 23 by omega)
    rw [cnt_s, if_pos rfl] at g
    omega
def TN (o : Nat) (T : Nat → Nat) (m : Nat) (σ : HS) : Prop := ∀ j, j < m → T j < 50 ∧ σ.1 o j = nI (T j)
theorem m_mayBegin {c : Cf} {T : Nat → Nat} {P : Nat → Prop} {σ : HS} (h : MR c σ) (w : WF c) (hz : BZ c T P σ) {x t many : Nat} (hT : TN 78 T many σ) (hx : x < c 23) (hm : many ≤ c 23) (ht : t < 50) : ∃ v, v ≤ 1 ∧ f_X9_mayBegin (nI x) (nI t) (nI many) σ = some (nI v, σ) ∧ (v = 1 ↔ MB c T P many x t) := by
  have hn := w.p_n
  have hw := w.p_wd
  have key : ∀ j, j ≤ many → ∀ n, many < j + n → ∀ y, y ≤ 1 → ∃ v, v ≤ 1 ∧ f_X9_mayBegin_14 n (nI x) (nI t) (nI many) (nI (1 + cnt T t j)) (nI y) (nI j) σ = some (nI v, σ) ∧ (v = 1 ↔ y = 1 ∧ (∀ j', j ≤ j' → j' < many → prd c T x j' t) ∧ 1 + cnt T t many ≤ c 21) := by
    have e126 : ∀ q, f_X9_mayBegin_126 q (nI 0) σ = some (nI 0, σ) := fun q => by rw [f_X9_mayBegin_126, if_pos (show nI 0 = (0 : Int32) from rfl)]; rfl
    refine dn_ind ?_ ?_
    · intro n hn' y hy
      obtain ⟨n, rfl⟩ : ∃ m, n = m + 1 := ⟨n - 1, by omega⟩
      rw [f_X9_mayBegin_14, if_pos (by rw [z_le (by omega) (by omega)]; omega)]
      have := cnt_le T t many
      by_cases y0 : y = 0
      · subst y0
        exact ⟨0, by omega, e126 _, ⟨fun e => by omega, fun e => by omega⟩⟩
      · rw [f_X9_mayBegin_126, if_neg (by rw [z_0, z_eq (by omega) (by omega)]; exact y0), show (21 : Int32) = nI 21 from rfl, z_ld (by omega) (by omega), z_bi, h 21 (by omega)]
        by_cases e : c 21 < 1 + cnt T t many
        · rw [if_pos (by rw [z_lt (by omega) (by omega)]; exact e)]
          exact ⟨0, by omega, rfl, ⟨fun e => by omega, fun e => by omega⟩⟩
        · rw [if_neg (by rw [z_lt (by omega) (by omega)]; exact e)]
          exact ⟨1, by omega, rfl, ⟨fun _ => ⟨by omega, fun j' a b => by omega, by omega⟩, fun _ => rfl⟩⟩
    · intro j hj ih n hn' y hy
      obtain ⟨n, rfl⟩ : ∃ m, n = m + 1 := ⟨n - 1, by omega⟩
      have hcl := cnt_le T t j
      rw [f_X9_mayBegin_14, if_neg (by rw [z_le (by omega) (by omega)]; omega)]
      by_cases y0 : y = 0
      · subst y0
        rw [if_pos (show nI 0 = (0 : Int32) from rfl)]
        exact ⟨0, by omega, e126 _, ⟨fun e => by omega, fun e => by omega⟩⟩
      · rw [if_neg (by rw [z_0, z_eq (by omega) (by omega)]; exact y0)]
        obtain ⟨t1, t2⟩ := hT j hj
        have hd1 := dd_le w (i := x) (j := j) (by omega)
        have hd2 := dd_le w (i := j) (j := x) hx
        have c2 : ∀ a b, a < 6 → b < 6 → ct c a b ≤ 2 := by
          intro a b ha hb
          have := w.p_nd ha hb
          unfold ct; split <;> omega
        have s97 : ∀ t0, f_X9_mayBegin_97 (f_X9_mayBegin_14 n) (nI x) (nI t) (nI many) (nI (1 + cnt T t j)) (nI j) t0 σ = f_X9_mayBegin_14 n (nI x) (nI t) (nI many) (nI (1 + cnt T t (j + 1))) t0 (nI (j + 1)) σ := by
          intro t0
          rw [f_X9_mayBegin_97, z_ld (by omega) (by omega), z_bi, t2, cnt_s]
          simp only [z_lit, z_add]
          by_cases e : T j = t
          · rw [if_pos (by rw [e]), if_pos e, Nat.add_assoc]
          · rw [if_neg (by rw [z_eq (by omega) (by omega)]; exact e), if_neg e, Nat.add_assoc]
        have bad : ¬ prd c T x j t → ∃ v, v ≤ 1 ∧ f_X9_mayBegin_96 (f_X9_mayBegin_14 n) (nI x) (nI t) (nI many) (nI (1 + cnt T t j)) (nI j) σ = some (nI v, σ) ∧ (v = 1 ↔ y = 1 ∧ (∀ j', j ≤ j' → j' < many → prd c T x j' t) ∧ 1 + cnt T t many ≤ c 21) := by
          intro nb
          obtain ⟨v, v1, v2, v3⟩ := ih n (by omega) 0 (by omega)
          refine ⟨v, v1, ?_, ?_⟩
          · rw [f_X9_mayBegin_96, s97]; exact v2
          · rw [v3]
            exact ⟨fun e => by omega, fun e => absurd (e.2.1 j (by omega) hj) nb⟩
        have good : prd c T x j t → ∃ v, v ≤ 1 ∧ f_X9_mayBegin_92 (f_X9_mayBegin_14 n) (nI x) (nI t) (nI many) (nI (1 + cnt T t j)) (nI j) σ = some (nI v, σ) ∧ (v = 1 ↔ y = 1 ∧ (∀ j', j ≤ j' → j' < many → prd c T x j' t) ∧ 1 + cnt T t many ≤ c 21) := by
          intro g
          obtain ⟨v, v1, v2, v3⟩ := ih n (by omega) 1 (by omega)
          refine ⟨v, v1, ?_, ?_⟩
          · rw [f_X9_mayBegin_92, s97]; exact v2
          · rw [v3]
            constructor
            · rintro ⟨_, a, b⟩
              refine ⟨by omega, fun j' q1 q2 => ?_, b⟩
              by_cases e : j' = j
              · rw [e]; exact g
              · exact a j' (by omega) q2
            · rintro ⟨_, a, b⟩
              exact ⟨rfl, fun j' q1 q2 => a j' (by omega) q2, b⟩
        have s68 : (ct c x j ≠ 0 → T j + dd c x j ≤ t) → ∃ v, v ≤ 1 ∧ f_X9_mayBegin_68 (f_X9_mayBegin_14 n) (nI x) (nI t) (nI many) (nI (1 + cnt T t j)) (nI j) (nI (ct c j x)) σ = some (nI v, σ) ∧ (v = 1 ↔ y = 1 ∧ (∀ j', j ≤ j' → j' < many → prd c T x j' t) ∧ 1 + cnt T t many ≤ c 21) := by
          intro g1
          have := c2 j x (by omega) (by omega)
          rw [f_X9_mayBegin_68]
          by_cases e : ct c j x = 0
          · rw [if_pos (by rw [e]; rfl)]
            exact good ⟨g1, fun q => absurd e q⟩
          · rw [if_neg (by rw [z_0, z_eq (by omega) (by omega)]; exact e), z_ld (by omega) (by omega), z_bi, t2, m_behind h w hx this, z_bi]
            rw [show (if ct c j x = 1 then la c x else 0) = dd c j x from rfl, z_add]
            by_cases g : T j < t + dd c j x
            · rw [if_pos (by rw [z_lt (by omega) (by omega)]; exact g)]
              exact bad (fun q => by have := q.2 e; omega)
            · rw [if_neg (by rw [z_lt (by omega) (by omega)]; exact g)]
              exact good ⟨g1, fun _ => by omega⟩
        have := c2 x j (by omega) (by omega)
        rw [m_counts h w (by omega) (by omega), z_bi, m_counts h w (by omega) (by omega), z_bi]
        by_cases e : ct c x j = 0
        · rw [if_pos (show nI (ct c x j) = 0 by rw [e]; rfl)]
          exact s68 (fun q => absurd e q)
        · rw [if_neg (show ¬ nI (ct c x j) = 0 by rw [z_0, z_eq (by omega) (by omega)]; exact e), z_ld (by omega) (by omega), z_bi, t2, m_behind h w (by omega) this, z_bi]
          rw [show (if ct c x j = 1 then la c j else 0) = dd c x j from rfl, z_add]
          by_cases g : t < T j + dd c x j
          · rw [if_pos (by rw [z_lt (by omega) (by omega)]; exact g)]
            exact bad (fun q => by have := q.1 e; omega)
          · rw [if_neg (by rw [z_lt (by omega) (by omega)]; exact g)]
            exact s68 (fun _ => by omega)
  obtain ⟨v0, u1, u2, u3⟩ := m_isFree h w hz hx ht
  obtain ⟨v, v1, v2, v3⟩ := key 0 (by omega) FU (by have := FU_b; omega) v0 u1
  rw [show 1 + cnt T t 0 = 1 from rfl, show nI 0 = (0 : Int32) from rfl, show nI 1 = (1 : Int32) from rfl] at v2
  refine ⟨v, v1, ?_, ?_⟩
  · rw [f_X9_mayBegin, u2, z_bi]; exact v2
  · rw [v3, u3]
    exact ⟨fun ⟨a, b, d⟩ => ⟨a, fun j hj => b j (by omega) hj, d⟩, fun ⟨a, b, d⟩ => ⟨a, fun j _ hj => b j hj, d⟩⟩
/-- the length of a plan -/
def len (c : Cf) (T : Nat → Nat) : Nat := mxF (fun i => T i + sp c i) (c 23)
theorem len_b {c : Cf} (w : WF c) {T : Nat → Nat} (h : ∀ j, j < c 23 → T j < 50) (i : Nat) (hi : i ≤ c 23) : mxF (fun i => T i + sp c i) i ≤ 60 :=
  mxF_le (fun k hk => by have := h k (by omega); have := sp_b w (show k < c 23 by omega); show T k + sp c k ≤ 60; omega)
theorem m_lengthOf {c : Cf} {T : Nat → Nat} {σ : HS} (h : MR c σ) (w : WF c) (hT : TN 78 T (c 23) σ) : f_X9_lengthOf σ = some (nI (len c T), σ) := by
  have hn := w.p_n
  have key : ∀ i, i ≤ c 23 → ∀ n, c 23 < i + n → f_X9_lengthOf_4 n (nI (mxF (fun i => T i + sp c i) i)) (nI i) σ = some (nI (len c T), σ) := by
    refine dn_ind ?_ ?_
    · intro n hn'
      obtain ⟨n, rfl⟩ : ∃ m, n = m + 1 := ⟨n - 1, by omega⟩
      rw [f_X9_lengthOf_4, show (23 : Int32) = nI 23 from rfl, z_ld (by omega) (by omega), z_bi, h 23 (by omega), if_pos (by rw [z_le (by omega) (by omega)]; omega)]
      rfl
    · intro i hi ih n hn'
      obtain ⟨n, rfl⟩ : ∃ m, n = m + 1 := ⟨n - 1, by omega⟩
      have b1 := len_b w (fun j hj => (hT j hj).1) i (by omega)
      have b2 := (hT i hi).1
      have b3 := sp_b w hi
      have ih := ih n (by omega)
      rw [mxF] at ih
      rw [f_X9_lengthOf_4, show (23 : Int32) = nI 23 from rfl, z_ld (by omega) (by omega), z_bi, h 23 (by omega), if_neg (by rw [z_le (by omega) (by omega)]; omega), z_ld (by omega) (by omega), z_bi, (hT i hi).2, m_span h w hi, z_bi, show (1 : Int32) = nI 1 from rfl, z_add, z_add]
      show (if nI (T i + sp c i) ≤ _ then _ else (ldI (σ.1 78) 6 (nI i)).bind fun v4 => (f_X9_span (nI i) σ).bind fun q5 => f_X9_lengthOf_4 n (v4 + q5.1) (nI (i + 1)) q5.2) = _
      rw [z_ld (by omega) (by omega), z_bi, (hT i hi).2, m_span h w hi, z_bi, z_add]
      by_cases e : T i + sp c i ≤ mxF (fun i => T i + sp c i) i
      · rw [if_pos (by rw [z_le (by omega) (by omega)]; exact e)]
        rw [Nat.max_eq_left e] at ih; exact ih
      · rw [if_neg (by rw [z_le (by omega) (by omega)]; exact e)]
        rw [Nat.max_eq_right (by omega)] at ih; exact ih
  have k := key 0 (by omega) FU (by have := FU_b; omega)
  rw [f_X9_lengthOf]
  rw [show mxF (fun i => T i + sp c i) 0 = 0 from rfl, show nI 0 = (0 : Int32) from rfl] at k
  exact k
theorem c_lengthOf {c : Cf} {T : Nat → Nat} {σ : HS} {o : Nat} (hb : BOK c σ) (w : WF c) (hT : TN o T (c 23) σ) : f_X0_lengthOf o σ = some (nI (len c T), σ) := by
  have hn := w.p_n
  have key : ∀ i, i ≤ c 23 → ∀ n, c 23 < i + n → f_X0_lengthOf_4 o n (nI (mxF (fun i => T i + sp c i) i)) (nI i) σ = some (nI (len c T), σ) := by
    refine dn_ind ?_ ?_
    · intro n hn'
      obtain ⟨n, rfl⟩ : ∃ m, n = m + 1 := ⟨n - 1, by omega⟩
      rw [f_X0_lengthOf_4, hb.1, if_pos (by rw [z_le (by omega) (by omega)]; omega)]
      rfl
    · intro i hi ih n hn'
      obtain ⟨n, rfl⟩ : ∃ m, n = m + 1 := ⟨n - 1, by omega⟩
      have b1 := len_b w (fun j hj => (hT j hj).1) i (by omega)
      have b2 := (hT i hi).1
      have b3 := sp_b w hi
      have ih := ih n (by omega)
      rw [mxF] at ih
      rw [f_X0_lengthOf_4, hb.1, if_neg (by rw [z_le (by omega) (by omega)]; omega), z_ld (by omega) (by omega), z_bi, (hT i hi).2, z_ld (by omega) (by omega), z_bi, hb.2.2.2.1 i hi, z_add, c_max (by omega) (by omega), z_bi, show (1 : Int32) = nI 1 from rfl, z_add]
      exact ih
  have k := key 0 (by omega) FU (by have := FU_b; omega)
  rw [f_X0_lengthOf]
  rw [show mxF (fun i => T i + sp c i) 0 = 0 from rfl, show nI 0 = (0 : Int32) from rfl] at k
  exact k
