-- the reference's look at two states
theorem ldx_v {c : Cf} {p : SL} (hp : p.1 ≤ 150) {s t : Nat} {v : Int32} (h : OKv c p (p.2 s) t v) : v = (ldx c p s t).elim (-1) nI ∧ ∀ a, ldx c p s t = some a → a < p.1 := by
  unfold ldx
  rcases h hp with ⟨a, b⟩ | ⟨y, y1, y2, y3⟩
  · rw [a, b]; exact ⟨rfl, fun a q => by cases q⟩
  · rw [y1, y3]
    refine ⟨rfl, fun a q => ?_⟩
    rw [Option.map_some, Option.some.injEq] at q
    omega
theorem m_areAlike {c : Cf} (w : WF c) {p : SL} (hp : p.1 ≤ 150) {C : Nat → Nat} {σ : HS} (h : MR c σ) (hC : ∀ i, i < p.1 → C i < 1000 ∧ σ.1 74 i = nI (C i)) (hL : ∀ s t, s < p.1 → t ≤ c 0 → OKv c p (p.2 s) t (σ.1 73 (6 * s + t))) {s s' : Nat} (hs : s < p.1) (hs' : s' < p.1) : f_X9_areAlike (nI s) (nI s') σ = some (nI (b2 (alk c p C s s')), σ) := by
  have hk := w.p_k
  have key : ∀ t, t ≤ c 0 + 1 → ∀ n, c 0 + 1 < t + n → ∀ y, y ≤ 1 → ∃ v, v ≤ 1 ∧ f_X9_areAlike_24 n (nI s) (nI s') (nI y) (nI t) σ = some (nI v, σ) ∧ (v = 1 ↔ y = 1 ∧ ∀ t', t ≤ t' → t' < c 0 + 1 → (ldx c p s t').map C = (ldx c p s' t').map C) := by
    refine dn_ind ?_ ?_
    · intro n hn' y hy
      obtain ⟨n, rfl⟩ : ∃ m, n = m + 1 := ⟨n - 1, by omega⟩
      refine ⟨y, hy, ?_, ⟨fun e => ⟨e, fun t' _ _ => by omega⟩, fun e => e.1⟩⟩
      rw [f_X9_areAlike_24, z_0, z_ld (by omega) (by omega), z_bi, h 0 (by omega), if_pos (by rw [z_lt (by omega) (by omega)]; omega), z_bz (by omega), z_bi]
    · intro t ht ih n hn' y hy
      obtain ⟨n, rfl⟩ : ∃ m, n = m + 1 := ⟨n - 1, by omega⟩
      rw [f_X9_areAlike_24, z_0, z_ld (by omega) (by omega), z_bi, h 0 (by omega), if_neg (by rw [z_lt (by omega) (by omega)]; omega)]
      by_cases y0 : y = 0
      · rw [if_pos (by rw [y0]), z_bz (by omega), z_bi]
        exact ⟨y, hy, rfl, ⟨fun e => by omega, fun e => by omega⟩⟩
      · rw [if_neg (by rw [z_eq (by omega) (by omega)]; exact y0)]
        have e6 : ∀ q : Nat, (6 : Int32) * nI q + nI t = nI (6 * q + t) := by
          intro q
          show nI 6 * nI q + nI t = _
          rw [z_mul, z_add]
        obtain ⟨v1, v2⟩ := ldx_v hp (hL s t hs (by omega))
        obtain ⟨u1, u2⟩ := ldx_v hp (hL s' t hs' (by omega))
        rw [e6, e6, z_ld (by omega) (by omega), z_bi, z_ld (by omega) (by omega), z_bi, v1, u1]
        have good : (ldx c p s t).map C = (ldx c p s' t).map C → ∃ v, v ≤ 1 ∧ f_X9_areAlike_24 n (nI s) (nI s') (nI 1) (nI t + nI 1) σ = some (nI v, σ) ∧ (v = 1 ↔ y = 1 ∧ ∀ t', t ≤ t' → t' < c 0 + 1 → (ldx c p s t').map C = (ldx c p s' t').map C) := by
          intro g
          obtain ⟨v, a1, a2, a3⟩ := ih n (by omega) 1 (by omega)
          refine ⟨v, a1, by rw [z_add]; exact a2, ?_⟩
          rw [a3]
          exact ⟨fun q => ⟨by omega, fun t' h1 h2 => by
            by_cases e : t' = t
            · rw [e]; exact g
            · exact q.2 t' (by omega) h2⟩, fun q => ⟨rfl, fun t' h1 h2 => q.2 t' (by omega) h2⟩⟩
        have bad : ¬ (ldx c p s t).map C = (ldx c p s' t).map C → ∃ v, v ≤ 1 ∧ f_X9_areAlike_24 n (nI s) (nI s') (nI 0) (nI t + nI 1) σ = some (nI v, σ) ∧ (v = 1 ↔ y = 1 ∧ ∀ t', t ≤ t' → t' < c 0 + 1 → (ldx c p s t').map C = (ldx c p s' t').map C) := by
          intro g
          obtain ⟨v, a1, a2, a3⟩ := ih n (by omega) 0 (by omega)
          refine ⟨v, a1, by rw [z_add]; exact a2, ?_⟩
          rw [a3]
          exact ⟨fun q => by omega, fun q => absurd (q.2 t (by omega) ht) g⟩
        cases q1 : ldx c p s t with
        | none =>
          rw [q1] at good bad
          rw [if_pos (show Option.elim (none : Option Nat) (-1 : Int32) nI = -1 from rfl), f_X9_areAlike_79]
          cases q2 : ldx c p s' t with
          | none => rw [q2] at good; rw [if_pos rfl]; exact good rfl
          | some b =>
            rw [q2] at bad
            have := u2 b q2
            rw [if_neg (show ¬ Option.elim (none : Option Nat) (-1 : Int32) nI = Option.elim (some b) (-1 : Int32) nI from fun q => z_ne (a := b) (by omega) (k := 1) (by omega) q.symm)]
            exact bad (fun q => by cases q)
        | some a =>
          rw [q1] at good bad
          have ha := v2 a q1
          rw [if_neg (show ¬ Option.elim (some a) (-1 : Int32) nI = -1 from z_ne (a := a) (by omega) (k := 1) (by omega))]
          cases q2 : ldx c p s' t with
          | none =>
            rw [q2] at bad
            rw [if_pos (show Option.elim (none : Option Nat) (-1 : Int32) nI = -1 from rfl), f_X9_areAlike_79, if_neg (show ¬ Option.elim (some a) (-1 : Int32) nI = Option.elim (none : Option Nat) (-1 : Int32) nI from z_ne (a := a) (by omega) (k := 1) (by omega))]
            exact bad (fun q => by cases q)
          | some b =>
            rw [q2] at good bad
            have hb := u2 b q2
            have c1 := hC a ha
            have c2 := hC b hb
            rw [if_neg (show ¬ Option.elim (some b) (-1 : Int32) nI = -1 from z_ne (a := b) (by omega) (k := 1) (by omega))]
            show ∃ v, v ≤ 1 ∧ ((ldI (σ.1 74) 150 (nI a)).bind fun v8 => (ldI (σ.1 74) 150 (nI b)).bind fun v9 => if v8 = v9 then f_X9_areAlike_24 n (nI s) (nI s') (nI 1) (nI t + nI 1) σ else f_X9_areAlike_24 n (nI s) (nI s') (nI 0) (nI t + nI 1) σ) = _ ∧ _
            rw [z_ld (by omega) (by omega), z_bi, z_ld (by omega) (by omega), z_bi, c1.2, c2.2]
            by_cases e : C a = C b
            · rw [if_pos (by rw [e])]; exact good (congrArg some e)
            · rw [if_neg (by rw [z_eq (by omega) (by omega)]; exact e)]; exact bad (fun q => e (Option.some.inj q))
  have c1 := hC s hs
  have c2 := hC s' hs'
  have fin : ∀ y, y ≤ 1 → (y = 1 ↔ C s = C s') → f_X9_areAlike_24 FU (nI s) (nI s') (nI y) 0 σ = some (nI (b2 (alk c p C s s')), σ) := by
    intro y hy hyc
    obtain ⟨v, a1, a2, a3⟩ := key 0 (by omega) FU (by have := FU_b; omega) y hy
    rw [show nI 0 = (0 : Int32) from rfl] at a2
    rw [a2]
    congr 3
    unfold b2
    by_cases q : v = 1
    · rw [if_pos ((alk_i _ _ _ _ _).mpr ⟨hyc.mp (a3.mp q).1, fun t ht => (a3.mp q).2 t (by omega) ht⟩), q]
    · rw [if_neg (fun g => q (a3.mpr ⟨hyc.mpr ((alk_i _ _ _ _ _).mp g).1, fun t _ ht => ((alk_i _ _ _ _ _).mp g).2 t ht⟩))]; omega
  rw [f_X9_areAlike, z_ld (by omega) (by omega), z_bi, z_ld (by omega) (by omega), z_bi, c1.2, c2.2]
  by_cases e : C s = C s'
  · rw [if_pos (by rw [e])]
    exact fin 1 (by omega) ⟨fun _ => e, fun _ => rfl⟩
  · rw [if_neg (by rw [z_eq (by omega) (by omega)]; exact e)]
    exact fin 0 (by omega) ⟨fun q => by omega, fun q => absurd q e⟩
