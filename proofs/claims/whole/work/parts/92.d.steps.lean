-- a call on both sides
def INV (a : AS) (σ : HS) : Prop := WA a ∧ IC a σ ∧ IM a σ ∧ KC3 (aC a) σ ∧ KCm (aC a) σ
def STP (G F : HS → Option (Int32 × HS)) (σ : HS) : Prop := ∃ v a' σ1 σ2, G σ = some (v, σ1) ∧ F σ1 = some (v, σ2) ∧ INV a' σ2
theorem KCm.byC {c : Cf} {σ σ' : HS} (h : KCm c σ) (hf : frC σ σ') : KCm c σ' := by
  unfold KCm MOK LM at h ⊢
  rw [hf 67 (by omega), hf 72 (by omega), hf 73 (by omega), hf 74 (by omega)]; exact h
theorem KC3.byM {c : Cf} {σ σ' : HS} (h : KC3 c σ) (hf : frM σ σ') : KC3 c σ' := h.eq (fun o _ h2 => hf o (by omega))
theorem KC3.ke {a a' : AS} {σ σ' : HS} (h : KC3 (aC a) σ) (k : KE a a' σ σ') : KC3 (aC a') σ' := by
  rcases k with ⟨k1, k2⟩ | ⟨k1, k2, k3, k4⟩
  · rw [k1]; exact h.eq k2
  · obtain ⟨m, m1, F, m2, m3, m4⟩ := h.1.1
    refine ⟨⟨⟨m, m1, F, ?_, ?_, ?_⟩, Or.inl ?_⟩, Or.inl ?_, Or.inl ?_⟩
    · rw [k1]; unfold upd; rw [if_neg (by omega)]; exact m2
    · rw [k4 39 (by omega) (by omega) (by omega) (by omega) (by omega)]; exact m3
    · rw [k4 41 (by omega) (by omega) (by omega) (by omega) (by omega)]; exact m4
    · rw [k1]; unfold upd; rw [if_pos rfl]
    · rw [k2]; unfold upd; rw [if_pos rfl]
    · rw [k3]; unfold upd; rw [if_pos rfl]
theorem stepB {a : AS} {σ : HS} (i : INV a σ) {G F : HS → Option (Int32 × HS)} {v : Int32} {a' : AS} (wa : WA a') (hc : ∃ σ', G σ = some (v, σ') ∧ IC a' σ' ∧ KC3 (aC a') σ' ∧ frC σ σ') (hm : ∀ τ, IM a τ → KCm (aC a) τ → ∃ τ', F τ = some (v, τ') ∧ IM a' τ' ∧ KCm (aC a') τ' ∧ frM τ τ') : STP G F σ := by
  obtain ⟨i1, i2, i3, i4, i5⟩ := i
  obtain ⟨σ1, c1, c2, c3, c4⟩ := hc
  obtain ⟨σ2, m1, m2, m3, m4⟩ := hm σ1 (i3.byC c4) (i5.byC c4)
  exact ⟨v, a', σ1, σ2, c1, m1, wa, c2.byM m4, m2, c3.byM m4, m3⟩
theorem stepA {a : AS} {σ : HS} (i : INV a σ) {G F : HS → Option (Int32 × HS)} {v : Int32} {a' : AS} (wa : WA a') (hc : ∃ σ', G σ = some (v, σ') ∧ IC a' σ' ∧ KE a a' σ σ' ∧ frC σ σ') (hm : ∀ τ, IM a τ → ∃ τ', F τ = some (v, τ') ∧ IM a' τ' ∧ ME a a' τ τ' ∧ frM τ τ') : STP G F σ := by
  refine stepB i (v := v) wa ?_ ?_
  · obtain ⟨σ1, c1, c2, c3, c4⟩ := hc
    exact ⟨σ1, c1, c2, i.2.2.2.1.ke c3, c4⟩
  · intro τ h1 h2
    obtain ⟨τ', m1, m2, m3, m4⟩ := hm τ h1
    exact ⟨τ', m1, m2, h2.me i.1 m3, m4⟩
theorem st_kind {a : AS} {σ : HS} (i : INV a σ) (x y z l : Int32) : STP (f_X8_kind x y z l) (f_X9_kind x y z l) σ := stepA i (WA_set i.1 (WF_K i.1.1 x y z l)) (c_kind i.2.1 i.1 x y z l) (fun _ h => m_kind h i.1 x y z l)
theorem st_sets {a : AS} {σ : HS} (i : INV a σ) (x y : Int32) : STP (f_X8_sets x y) (f_X9_sets x y) σ := stepA i (WA_set i.1 (WF_S i.1.1 x y)) (c_sets i.2.1 i.1 x y) (fun _ h => m_sets h i.1 x y)
theorem st_instruction {a : AS} {σ : HS} (i : INV a σ) (x : Int32) : STP (f_X8_instruction x) (f_X9_instruction x) σ := stepA i (WA_set i.1 (WF_I i.1.1 x)) (c_instruction i.2.1 i.1 x) (fun _ h => m_instruction h i.1 x)
theorem st_needs {a : AS} {σ : HS} (i : INV a σ) (x y z : Int32) : STP (f_X8_needs x y z) (f_X9_needs x y z) σ := stepA i (WA_set i.1 (WF_N i.1.1 x y z)) (c_needs i.2.1 i.1 x y z) (fun _ h => m_needs h i.1 x y z)
theorem st_drops {a : AS} {σ : HS} (i : INV a σ) (x : Int32) : STP (f_X8_drops x) (f_X9_drops x) σ := stepA i (WA_set i.1 (WF_D i.1.1 x)) (c_drops i.2.1 i.1 x) (fun _ h => m_drops h i.1 x)
theorem st_back {a : AS} {σ : HS} (i : INV a σ) : STP f_X8_back f_X9_back σ := stepA i (WA_back i.1) (c_back i.2.1 i.1) (fun _ h => m_back h i.1)
theorem st_type {a : AS} {σ : HS} (i : INV a σ) (x : Int32) : STP (f_X8_type x) (f_X9_type x) σ := stepA i (WA_type i.1 x) (c_type i.2.1 i.1 x) (fun _ h => m_type h i.1 x)
theorem st_clear {a : AS} {σ : HS} (i : INV a σ) : STP f_X8_clear f_X9_clear σ := stepA i (WA_clear i.1) (c_clear i.2.1) (fun _ h => m_clear h)
theorem st_reads {a : AS} {σ : HS} (i : INV a σ) : STP f_X8_reads f_X9_reads σ := stepA i (WA_reads i.1) (c_reads i.2.1 i.1) (fun _ h => m_reads h i.1)
theorem WA_told {a : AS} (w : WA a) (x : Int32) : WA (aTold x a).2 := by unfold aTold; split; exact w; exact WA_ref w 0
theorem WA_of {a : AS} (w : WA a) (k x : Int32) : WA (aOf k x a).2 := by unfold aOf; split; exact w; exact WA_ref w 0
theorem WA_ab {a : AS} (w : WA a) (k x : Int32) : WA (aAb k x a).2 := by unfold aAb; split; exact w; exact WA_ref w 0
theorem WA_sts {a : AS} (w : WA a) : WA (aSts a).2 := by unfold aSts; split; exact w; exact WA_ref w 3
theorem WA_cls {a : AS} (w : WA a) : WA (aCls a).2 := by unfold aCls; split; exact w; exact WA_ref w 3
theorem WA_st {a : AS} (w : WA a) (s x : Int32) : WA (aSt s x a).2 := by
  unfold aSt
  repeat' split
  all_goals first | exact w | exact WA_ref w 0 | exact WA_ref w 3
theorem WA_al {a : AS} (w : WA a) (s x : Int32) : WA (aAl s x a).2 := by
  unfold aAl
  repeat' split
  all_goals first | exact w | exact WA_ref w 0 | exact WA_ref w 3
theorem st_told {a : AS} {σ : HS} (i : INV a σ) (x : Int32) : STP (f_X8_told x) (f_X9_told x) σ := stepA i (WA_told i.1 x) (c_told i.2.1 x) (fun _ h => m_told h x)
theorem st_of {a : AS} {σ : HS} (i : INV a σ) (k x : Int32) : STP (f_X8_of k x) (f_X9_of k x) σ := stepA i (WA_of i.1 k x) (c_of i.2.1 i.1 k x) (fun _ h => m_of h i.1 k x)
theorem st_states {a : AS} {σ : HS} (i : INV a σ) : STP f_X8_states f_X9_states σ := by
  refine stepB i (v := (aSts a).1) (WA_sts i.1) ?_ ?_
  · obtain ⟨σ', a1, a2, a3, a4, a5⟩ := c_states i.2.1 i.1 i.2.2.2.1.1
    exact ⟨σ', a1, a2, by rw [a3]; exact ⟨a4, i.2.2.2.1.2.1.fr a5 (by simp), i.2.2.2.1.2.2.fr a5 (by simp)⟩, a5.toC (by simp)⟩
  · intro τ h1 h2
    obtain ⟨σ', a1, a2, a3, a4, a5⟩ := m_states h1 i.1 h2
    exact ⟨σ', a1, a2, by rw [a3]; exact a4, a5⟩
theorem st_classes {a : AS} {σ : HS} (i : INV a σ) : STP f_X8_classes f_X9_classes σ := by
  refine stepB i (v := (aCls a).1) (WA_cls i.1) ?_ ?_
  · obtain ⟨σ', a1, a2, a3, a4, a5⟩ := c_classes i.2.1 i.1 i.2.2.2.1.1
    exact ⟨σ', a1, a2, by rw [a3]; exact ⟨a4, i.2.2.2.1.2.1.fr a5 (by simp), i.2.2.2.1.2.2.fr a5 (by simp)⟩, a5.toC (by simp)⟩
  · intro τ h1 h2
    obtain ⟨σ', a1, a2, a3, a4, a5⟩ := m_classes h1 i.1 h2
    exact ⟨σ', a1, a2, by rw [a3]; exact a4, a5⟩
theorem st_state {a : AS} {σ : HS} (i : INV a σ) (s x : Int32) : STP (f_X8_state s x) (f_X9_state s x) σ := by
  refine stepB i (v := (aSt s x a).1) (WA_st i.1 s x) ?_ ?_
  · obtain ⟨σ', a1, a2, a3, a4, a5⟩ := c_state i.2.1 i.1 i.2.2.2.1.1 s x
    exact ⟨σ', a1, a2, by rw [a3]; exact ⟨a4, i.2.2.2.1.2.1.fr a5 (by simp), i.2.2.2.1.2.2.fr a5 (by simp)⟩, a5.toC (by simp)⟩
  · intro τ h1 h2
    obtain ⟨σ', a1, a2, a3, a4, a5⟩ := m_state h1 i.1 h2 s x
    exact ⟨σ', a1, a2, by rw [a3]; exact a4, a5⟩
theorem st_alike {a : AS} {σ : HS} (i : INV a σ) (s x : Int32) : STP (f_X8_alike s x) (f_X9_alike s x) σ := by
  refine stepB i (v := (aAl s x a).1) (WA_al i.1 s x) ?_ ?_
  · obtain ⟨σ', a1, a2, a3, a4, a5⟩ := c_alike i.2.1 i.1 i.2.2.2.1.1 s x
    exact ⟨σ', a1, a2, by rw [a3]; exact ⟨a4, i.2.2.2.1.2.1.fr a5 (by simp), i.2.2.2.1.2.2.fr a5 (by simp)⟩, a5.toC (by simp)⟩
  · intro τ h1 h2
    obtain ⟨σ', a1, a2, a3, a4, a5⟩ := m_alike h1 i.1 h2 s x
    exact ⟨σ', a1, a2, by rw [a3]; exact a4, a5⟩
theorem st_about {a : AS} {σ : HS} (i : INV a σ) (s x : Int32) : STP (f_X8_about s x) (f_X9_about s x) σ := by
  refine stepB i (v := (aAb s x a).1) (WA_ab i.1 s x) ?_ ?_
  · obtain ⟨σ', a1, a2, a3, a4, a5⟩ := c_about i.2.1 i.1 i.2.2.2.1.2.1 s x
    exact ⟨σ', a1, a2, by rw [a3]; exact ⟨i.2.2.2.1.1.fr a5 (by simp), a4, i.2.2.2.1.2.2.fr a5 (by simp)⟩, a5.toC (by simp)⟩
  · intro τ h1 h2
    obtain ⟨σ', a1, a2, a3, a4⟩ := m_about h1 i.1 s x
    exact ⟨σ', a1, a2, h2.me i.1 a3, a4⟩
theorem st_bound {a : AS} {σ : HS} (i : INV a σ) : STP f_X8_bound f_X9_bound σ := by
  refine stepB i (v := nI (bnd (aC a))) i.1 ?_ ?_
  · obtain ⟨σ', a1, a2, a4, a5⟩ := c_bound i.2.1 i.1 i.2.2.2.1.2.1
    exact ⟨σ', a1, a2, ⟨i.2.2.2.1.1.fr a5 (by simp), a4, i.2.2.2.1.2.2.fr a5 (by simp)⟩, a5.toC (by simp)⟩
  · intro τ h1 h2
    obtain ⟨σ', a1, a2, a3, a4⟩ := m_bound h1 i.1
    exact ⟨σ', a1, a2, h2.me i.1 a3, a4⟩
theorem st_plan {a : AS} {σ : HS} (i : INV a σ) (x : Int32) : STP (f_X8_plan x) (f_X9_plan x) σ := by
  obtain ⟨v, a', σ', a1, a2, a3, a4, a5, a6⟩ := c_plan i.2.1 i.1 i.2.2.2.1.2.1 x
  have wa : WA a' := by
    rcases a2 with ⟨_, _, q⟩ | ⟨_, _, q⟩
    · rw [q]; exact i.1
    · rw [q]; exact WA_ref i.1 0
  refine stepB i wa ⟨σ', a1, a3, by rw [a4]; exact ⟨i.2.2.2.1.1.fr a6 (by simp), a5, i.2.2.2.1.2.2.fr a6 (by simp)⟩, a6.toC (by simp)⟩ ?_
  intro τ h1 h2
  obtain ⟨v2, a2', τ', b1, b2, b3, b4, b5⟩ := m_plan h1 i.1 x
  obtain ⟨e1, e2⟩ := a2.un b2
  subst e1; subst e2
  exact ⟨τ', b1, b3, h2.me i.1 b4, b5⟩
theorem st_ranked {a : AS} {σ : HS} (i : INV a σ) (r x : Int32) : STP (f_X8_ranked r x) (f_X9_ranked r x) σ := by
  obtain ⟨v, a', σ', a1, a2, a3, a4, a5, a6⟩ := c_ranked i.2.1 i.1 i.2.2.2.1.2.1 r x
  have wa : WA a' := by
    rcases a2 with ⟨_, _, q⟩ | ⟨_, _, q⟩
    · rw [q]; exact i.1
    · rw [q]; exact WA_ref i.1 0
  refine stepB i wa ⟨σ', a1, a3, by rw [a4]; exact ⟨i.2.2.2.1.1.fr a6 (by simp), a5, i.2.2.2.1.2.2.fr a6 (by simp)⟩, a6.toC (by simp)⟩ ?_
  intro τ h1 h2
  obtain ⟨v2, a2', τ', b1, b2, b3, b4, b5⟩ := m_ranked h1 i.1 r x
  obtain ⟨e1, e2⟩ := a2.un b2
  subst e1; subst e2
  exact ⟨τ', b1, b3, h2.me i.1 b4, b5⟩
theorem st_best {a : AS} {σ : HS} (i : INV a σ) (x : Int32) : STP (f_X8_best x) (f_X9_best x) σ := by
  obtain ⟨v, a', σ', a1, a2, a3, a4, a5, a6, a7⟩ := c_best i.2.1 i.1 i.2.2.2.1.2.1 i.2.2.2.1.2.2 x
  have wa : WA a' := by
    rcases a2 with ⟨_, _, q⟩ | ⟨_, _, q⟩
    · rw [q]; exact i.1
    · rw [q]; exact WA_ref i.1 0
  refine stepB i wa ⟨σ', a1, a3, by rw [a4]; exact ⟨i.2.2.2.1.1.fr a7 (by simp), a5, a6⟩, a7.toC (by simp)⟩ ?_
  intro τ h1 h2
  obtain ⟨v2, a2', τ', b1, b2, b3, b4, b5⟩ := m_best h1 i.1 x
  obtain ⟨e1, e2⟩ := a2.un b2
  subst e1; subst e2
  exact ⟨τ', b1, b3, h2.me i.1 b4, b5⟩
theorem st_digest {a : AS} {σ : HS} (i : INV a σ) : ∃ v a' σ1 σ2, f_X8_digest σ = some (v, σ1) ∧ f_X9_digest σ1 = some (v, σ2) ∧ INV a' σ2 := by
  obtain ⟨L, T, hB⟩ := BE_ex i.1.1
  obtain ⟨i1, i2, i3, i4, i5⟩ := i
  obtain ⟨σ1, c1, c2, c3, c4⟩ := c_digest i2 i1 i4 hB
  obtain ⟨σ2, m1, m2, m3, m4⟩ := m_digest (i3.byC c4) i1 (i5.byC c4) hB
  exact ⟨_, a, σ1, σ2, c1, m1, i1, c2.byM m4, m2, c3.byM m4, m3⟩
