-- the reference's states
def suc (c : Cf) (x : Nat) : Nat → Option Nat
  | 0 => some (psd x 1)
  | k + 1 => if x &&& hm c k = 0 then some (x ||| hm c k) else none
theorem suc_b {c : Cf} (w : WF c) {x t y : Nat} (hx : x < 4096) (ht : t ≤ c 0) (h : suc c x t = some y) : y < 4096 := by
  cases t with
  | zero => rw [suc, Option.some.injEq] at h; rw [← h]; exact psd_lt hx 1
  | succ k =>
    rw [suc] at h
    by_cases e : x &&& hm c k = 0
    · rw [if_pos e, Option.some.injEq] at h; rw [← h]; exact or_b hx (hm_b w (by omega))
    · rw [if_neg e] at h; cases h
theorem m_read {c : Cf} {σ : HS} (h : MR c σ) (w : WF c) {x t : Nat} (hx : x < 4096) (ht : t ≤ c 0) : f_X9_read (nI x) (nI t) σ = some ((suc c x t).elim (-1) nI, σ) := by
  have hk := w.p_k
  rw [f_X9_read]
  cases t with
  | zero =>
    rw [if_pos (show nI 0 = (0 : Int32) from rfl), suc]
    show some ((nI x >>> (nI 1 &&& nI 31)) &&& nI 1911, σ) = some (nI (psd x 1), σ)
    rw [z_31 (by omega), z_shr (by omega) (by omega), z_and]; rfl
  | succ k =>
    have hb := hm_b w (show k < c 0 by omega)
    have ba : x &&& hm c k ≤ x := Nat.and_le_left
    rw [if_neg (show ¬ nI (k + 1) = 0 by rw [z_0, z_eq (by omega) (by omega)]; omega), show nI (k + 1) - 1 = nI k by
      show nI (k + 1) - nI 1 = _
      rw [z_sub (by omega)]; rfl, m_holds h (by omega), z_bi, z_and, z_or, suc]
    by_cases e : x &&& hm c k = 0
    · rw [if_pos (by rw [e]; rfl), if_pos e]; rfl
    · rw [if_neg (by rw [z_0, z_eq (by omega) (by omega)]; exact e), if_neg e]; rfl
def ext (p q : SL) : Prop := p.1 ≤ q.1 ∧ ∀ i, i < p.1 → q.2 i = p.2 i
theorem ext.rf (p : SL) : ext p p := ⟨Nat.le_refl _, fun _ _ => rfl⟩
theorem ext.tr {p q r : SL} (h : ext p q) (h' : ext q r) : ext p r := ⟨Nat.le_trans h.1 h'.1, fun i hi => by rw [h'.2 i (Nat.lt_of_lt_of_le hi h.1), h.2 i hi]⟩
theorem addS_ext (x : Nat) (p : SL) : ext p (addS x p) := ⟨addS_ge x p, fun _ hi => addS_k x p hi⟩
theorem ixF_ext {p q : SL} (h : ext p q) {y : Nat} (hy : ixF p.2 y p.1 < p.1) : ixF q.2 y q.1 = ixF p.2 y p.1 := by
  have e1 := ixF_at _ hy
  have e2 : q.2 (ixF p.2 y p.1) = y := by rw [h.2 _ hy, e1]
  have e3 := ixF_in (F := q.2) (n := q.1) (Nat.lt_of_lt_of_le hy h.1) e2
  have e4 := ixF_at _ e3
  rcases Nat.lt_trichotomy (ixF q.2 y q.1) (ixF p.2 y p.1) with g | g | g
  · exact absurd (by rw [← h.2 _ (by omega)]; exact e4) (ixF_no p.1 _ g)
  · exact g
  · exact absurd e2 (ixF_no q.1 _ g)
def OKv (c : Cf) (p : SL) (x t : Nat) (v : Int32) : Prop := p.1 ≤ 150 → (suc c x t = none ∧ v = -1) ∨ ∃ y, suc c x t = some y ∧ ixF p.2 y p.1 < p.1 ∧ v = nI (ixF p.2 y p.1)
theorem OKv.ext {c : Cf} {p q : SL} (h : ext p q) {x t : Nat} {v : Int32} (g : OKv c p x t v) : OKv c q x t v := by
  intro hq
  rcases g (Nat.le_trans h.1 hq) with a | ⟨y, y1, y2, y3⟩
  · exact Or.inl a
  · refine Or.inr ⟨y, y1, ?_, ?_⟩
    · rw [ixF_ext h y2]; exact Nat.lt_of_lt_of_le y2 h.1
    · rw [ixF_ext h y2]; exact y3
def nxt (c : Cf) (x t : Nat) (p : SL) : SL := (suc c x t).elim p (fun y => addS y p)
theorem nxt_ext (c : Cf) (x t : Nat) (p : SL) : ext p (nxt c x t p) := by
  unfold nxt
  cases suc c x t with
  | none => exact ext.rf p
  | some y => exact addS_ext y p
theorem nxt_GD {c : Cf} (w : WF c) {x t : Nat} (hx : x < 4096) (ht : t ≤ c 0) {p : SL} (h : GD p) : GD (nxt c x t p) := by
  unfold nxt
  cases q : suc c x t with
  | none => exact h
  | some y => exact h.add (suc_b w hx ht q)
theorem nxt_s (c : Cf) (x k : Nat) (p : SL) : nxt c x (k + 1) (inn c x k p) = inn c x (k + 1) p := by
  unfold nxt
  rw [inn, suc]
  by_cases e : x &&& hm c k = 0
  · rw [if_pos e, if_pos e]; rfl
  · rw [if_neg e, if_neg e]; rfl
theorem inn_ext (c : Cf) (x : Nat) (p : SL) : ∀ k, ext p (inn c x k p) := by
  intro k
  induction k with
  | zero => exact ext.rf p
  | succ k ih => rw [← nxt_s]; exact ih.tr (nxt_ext _ _ _ _)
/-- what the reference's search for states changes -/
def GS (σ σ' : HS) : Prop := (∀ o, o ≠ 67 → o ≠ 72 → o ≠ 73 → σ'.1 o = σ.1 o) ∧ ∀ k, k ≠ 6 → σ'.1 67 k = σ.1 67 k
theorem GS.tr {a b d : HS} (h : GS a b) (h' : GS b d) : GS a d := ⟨fun o h1 h2 h3 => by rw [h'.1 o h1 h2 h3, h.1 o h1 h2 h3], fun k hk => by rw [h'.2 k hk, h.2 k hk]⟩
theorem GS.MR {c : Cf} {σ σ' : HS} (h : GS σ σ') (hm : MR c σ) : MR c σ' := fun k hk => by rw [h.1 68 (by omega) (by omega) (by omega)]; exact hm k hk
def T73 (c : Cf) (p : SL) (s : Nat) (D : Nat → Prop) (σ : HS) : Prop := ∀ s' t', s' < p.1 → t' ≤ c 0 → (s' < s ∨ (s' = s ∧ D t')) → OKv c p (p.2 s') t' (σ.1 73 (6 * s' + t'))
theorem m_fs61 {c : Cf} (w : WF c) {q : SL} (hg : GD q) {s t : Nat} (hs : s < q.1) (ht : t ≤ c 0) (rec : Int32 → Int32 → HS → Option HS) (x2 : Int32) {D : Nat → Prop} {σ : HS} (h : MR c σ) (hl : LM q σ) (hT : T73 c q s D σ) : ∃ σ', GS σ σ' ∧ LM (nxt c (q.2 s) t q) σ' ∧ T73 c (nxt c (q.2 s) t q) s (fun t' => D t' ∨ t' = t) σ' ∧ f_X9_findStates_61 rec (nI s) x2 (nI t) σ = rec (nI s) (x2 + 1) σ' := by
  have hk := w.p_k
  have hn := hg.1
  have hx := hg.2.1 s hs
  have e6 : (6 : Int32) * nI s + nI t = nI (6 * s + t) := by
    show nI 6 * nI s + nI t = _
    rw [z_mul, z_add]
  rw [f_X9_findStates_61, z_ld (by omega) (by omega), z_bi, hl.2 s hs, m_read h w hx ht, z_bi, e6]
  have fin : ∀ (τ : HS) (v : Int32), GS σ τ → LM (nxt c (q.2 s) t q) τ → τ.1 73 = σ.1 73 → OKv c (nxt c (q.2 s) t q) (q.2 s) t v → GS σ (sI τ 73 (6 * s + t) v) ∧ LM (nxt c (q.2 s) t q) (sI τ 73 (6 * s + t) v) ∧ T73 c (nxt c (q.2 s) t q) s (fun t' => D t' ∨ t' = t) (sI τ 73 (6 * s + t) v) := by
    intro τ v g1 g2 g3 g4
    have ex := nxt_ext c (q.2 s) t q
    refine ⟨⟨fun o o1 o2 o3 => by rw [s_I2 _ _ _ o3]; exact g1.1 o o1 o2 o3, fun k hk => by rw [s_I2 _ _ _ (by omega)]; exact g1.2 k hk⟩, ⟨by rw [s_I2 _ _ _ (by omega)]; exact g2.1, by rw [s_I2 _ _ _ (by omega)]; exact g2.2⟩, ?_⟩
    intro s' t' h1 h2 h3
    have hs' : s' < q.1 := by omega
    rw [ex.2 s' hs', s_I1]
    unfold upd
    by_cases e : 6 * s' + t' = 6 * s + t
    · have e1 : s' = s := by omega
      have e2 : t' = t := by omega
      rw [if_pos e, e1, e2]; exact g4
    · rw [if_neg e, g3]
      refine OKv.ext ex (hT s' t' hs' h2 ?_)
      rcases h3 with a | ⟨a, b | b⟩
      · exact Or.inl a
      · exact Or.inr ⟨a, b⟩
      · exact absurd (by rw [a, b]) e
  cases hq : suc c (q.2 s) t with
  | none =>
    have en : nxt c (q.2 s) t q = q := by unfold nxt; rw [hq]; rfl
    rw [if_pos (show Option.elim (none : Option Nat) (-1 : Int32) nI = -1 from rfl), z_st (by omega) (by omega), z_bi]
    have f := fin σ (-1) ⟨fun _ _ _ _ => rfl, fun _ _ => rfl⟩ (by rw [en]; exact hl) rfl (fun _ => Or.inl ⟨hq, rfl⟩)
    exact ⟨_, f.1, f.2.1, f.2.2, rfl⟩
  | some y =>
    have hy := suc_b w hx ht hq
    have en : nxt c (q.2 s) t q = addS y q := by unfold nxt; rw [hq]; rfl
    obtain ⟨σ1, a1, a2, a3, a4⟩ := m_number hl hg hy
    have hix := ixF_le q.2 y q.1
    rw [if_neg (show ¬ Option.elim (some y) (-1 : Int32) nI = -1 from z_ne (by omega) (k := 1) (by omega))]
    show ∃ σ', _ ∧ _ ∧ _ ∧ ((f_X9_number (nI y) σ).bind fun q6 => (stI q6.2 73 906 (nI (6 * s + t)) q6.1).bind fun σ7 => rec (nI s) (x2 + 1) σ7) = _
    rw [a1, z_bi, z_st (by omega) (by omega), z_bi]
    have f := fin σ1 (nI (ixF q.2 y q.1)) ⟨fun o o1 o2 _ => a3 o o1 o2, a4⟩ (by rw [en]; exact a2) (a3 73 (by omega) (by omega)) (by
      rw [en]
      intro hle
      refine Or.inr ⟨y, hq, ?_⟩
      by_cases e : ixF q.2 y q.1 < q.1
      · rw [ixF_ext (addS_ext y q) e]
        exact ⟨Nat.lt_of_lt_of_le e (addS_ge y q), rfl⟩
      · have g := addS_ge y q
        have ea : addS y q = (q.1 + 1, un q.2 q.1 y) := by
          unfold addS; rw [if_neg e, if_neg (by omega)]
        rw [ea]
        show ixF (un q.2 q.1 y) y (q.1 + 1) < q.1 + 1 ∧ _ = nI (ixF (un q.2 q.1 y) y (q.1 + 1))
        rw [ixF, ixF_cg (F := un q.2 q.1 y) (G := q.2) y q.1 (fun i hi => by unfold un; rw [if_neg (by omega)]), if_neg e]
        unfold un
        rw [if_pos rfl, if_pos rfl]
        exact ⟨by omega, by congr 1; omega⟩)
    exact ⟨_, f.1, f.2.1, f.2.2, rfl⟩
