-- what the orders do, as configurations
def cu (c : Cf) (k v : Nat) : Cf := fun j => if j = k then v else c j
theorem cu_1 (c : Cf) (k v : Nat) : cu c k v k = v := by simp [cu]
theorem cu_2 (c : Cf) {k j : Nat} (v : Nat) (h : j ≠ k) : cu c k v j = c j := by simp [cu, h]
theorem MR_cu {c : Cf} {σ : HS} (h : MR c σ) {k v : Nat} : MR (cu c k v) (sI σ 68 k (nI v)) := by
  intro j hj
  rw [s_I1]
  by_cases e : j = k
  · subst e; rw [u_1, cu_1]
  · rw [u_2 _ _ e, cu_2 _ _ e, h j hj]
def okR (lo hi : Int) (v : Int32) : Bool := decide (lo ≤ v.toInt ∧ v.toInt ≤ hi)
theorem okR_t {lo hi : Int} {v : Int32} : okR lo hi v = true ↔ lo ≤ v.toInt ∧ v.toInt ≤ hi := by simp [okR]
theorem okR_f {lo hi : Int} {v : Int32} : okR lo hi v = false ↔ ¬ (lo ≤ v.toInt ∧ v.toInt ≤ hi) := by simp [okR]
theorem m_inR {lo hi : Nat} (h1 : lo < 2147483648) (h2 : hi < 2147483648) (v : Int32) (σ : HS) : f_X9_in v (nI lo) (nI hi) σ = some (nI (b2 (okR lo hi v)), σ) := by
  rw [m_in]
  simp only [z_leI, z_ti h1, z_ti h2]
  rfl
theorem okR_nI {lo hi : Nat} {v : Int32} (h : okR lo hi v = true) : ∃ n, lo ≤ n ∧ n ≤ hi ∧ n < 2147483648 ∧ v = nI n ∧ v.toInt.toNat = n := by
  obtain ⟨h1, h2⟩ := okR_t.mp h
  obtain ⟨n, a, b, d⟩ := z_of (v := v) (by omega)
  exact ⟨n, by omega, by omega, a, b, by omega⟩
/-- the reference behind an order -/
def MP (c c' : Cf) (σ σ' : HS) : Prop := MR c' σ' ∧ fr [67, 68] σ σ' ∧ (∀ k, k ≠ 5 → σ'.1 67 k = σ.1 67 k) ∧ (σ'.1 67 5 = 0 ∨ (σ'.1 67 5 = σ.1 67 5 ∧ ∀ k, k < 21 → c' k = c k))
theorem MP.rf {c : Cf} {σ : HS} (h : MR c σ) : MP c c σ σ := ⟨h, fr.rf _ _, fun _ _ => rfl, Or.inr ⟨rfl, fun _ _ => rfl⟩⟩
theorem MP.tr {c c' c'' : Cf} {σ σ' σ'' : HS} (h : MP c c' σ σ') (h' : MP c' c'' σ' σ'') : MP c c'' σ σ'' := by
  refine ⟨h'.1, h.2.1.tr h'.2.1, fun k hk => (h'.2.2.1 k hk).trans (h.2.2.1 k hk), ?_⟩
  rcases h'.2.2.2 with e | ⟨e1, e2⟩
  · exact Or.inl e
  · rcases h.2.2.2 with d | ⟨d1, d2⟩
    · exact Or.inl (e1.trans d)
    · exact Or.inr ⟨e1.trans d1, fun k hk => (e2 k hk).trans (d2 k hk)⟩
theorem MP.one {c : Cf} {σ : HS} (h : MR c σ) {k v : Nat} (hk : 21 ≤ k) : MP c (cu c k v) σ (sI σ 68 k (nI v)) :=
  ⟨MR_cu h, fr.sI (by simp), fun j _ => by rw [s_I2 _ _ _ (by decide)], Or.inr ⟨by rw [s_I2 _ _ _ (by decide)], fun j hj => cu_2 _ _ (by omega)⟩⟩
def opK (a b d l : Int32) (c : Cf) : Int32 × Cf :=
  if okR 0 15 a && okR 0 15 b && okR 0 15 d && okR 1 5 l then
    if c 0 = 5 then (-4, c) else (nI (c 0), cu (cu (cu (cu (cu c (1 + 4 * c 0) a.toInt.toNat) (1 + 4 * c 0 + 1) b.toInt.toNat) (1 + 4 * c 0 + 2) d.toInt.toNat) (1 + 4 * c 0 + 3) l.toInt.toNat) 0 (c 0 + 1))
  else (-2, c)
def opS (w v : Int32) (c : Cf) : Int32 × Cf :=
  if w = 0 ∧ okR 1 3 v then (nI (c 21), cu c 21 v.toInt.toNat) else if w = 1 ∧ okR 0 1 v then (nI (c 22), cu c 22 v.toInt.toNat) else (-2, c)
def opI (k : Int32) (c : Cf) : Int32 × Cf :=
  if 0 ≤ k.toInt ∧ k.toInt < c 0 then
    if c 23 = 6 then (-4, c) else (nI (c 23), cu (cu c (24 + c 23) k.toInt.toNat) 23 (c 23 + 1))
  else (-2, c)
def isI (c : Cf) (v : Int32) : Bool := decide (0 ≤ v.toInt ∧ v.toInt < c 23)
def opN (i j so : Int32) (c : Cf) : Int32 × Cf :=
  if isI c i && isI c j && !decide (i = j) && okR 0 2 so then
    if so ≠ 0 ∧ (rdN c (1 <<< j.toInt.toNat) (c 23)).testBit i.toInt.toNat then (-3, c)
    else (nI (nd c i.toInt.toNat j.toInt.toNat), cu c (30 + 6 * i.toInt.toNat + j.toInt.toNat) so.toInt.toNat)
  else (-2, c)
def drC (g : Nat) (c : Cf) : Cf := fun k =>
  if k = 23 then c 23 - 1
  else if 24 + g ≤ k ∧ k < 29 then c (k + 1)
  else if 30 ≤ k ∧ k < 66 then
    (let i := (k - 30) / 6; let j := (k - 30) % 6
     let i' := if g ≤ i then i + 1 else i; let j' := if g ≤ j then j + 1 else j
     if i' < 6 ∧ j' < 6 then nd c i' j' else 0)
  else c k
def opD (g : Int32) (c : Cf) : Int32 × Cf :=
  if isI c g then (nI (c 23 - 1), drC g.toInt.toNat c) else (-2, c)
theorem isI_nI {c : Cf} {v : Int32} (h : isI c v = true) : ∃ n, n < c 23 ∧ n < 2147483648 ∧ v = nI n ∧ v.toInt.toNat = n := by
  have h1 : 0 ≤ v.toInt ∧ v.toInt < c 23 := by simpa [isI] using h
  obtain ⟨n, a, b, d⟩ := z_of (v := v) h1.1
  exact ⟨n, by omega, a, b, by omega⟩
theorem m_doKind {c : Cf} {σ : HS} (h : MR c σ) (w : WF c) (a b d l : Int32) : ∃ σ', f_X9_doKind a b d l σ = some ((opK a b d l c).1, σ') ∧ MP c (opK a b d l c).2 σ σ' := by
  have h1 := w.p_k
  rw [f_X9_doKind]
  simp (disch := omega) only [z_lit, m_inR, z_bi, b2_0]
  unfold opK
  by_cases ha : okR 0 15 a = true
  · by_cases hb : okR 0 15 b = true
    · by_cases hd : okR 0 15 d = true
      · by_cases hl : okR 1 5 l = true
        · obtain ⟨a', a1, a2, a3, a4, a5⟩ := okR_nI (lo := 0) (hi := 15) ha
          obtain ⟨b', b1, b2', b3, b4, b5⟩ := okR_nI (lo := 0) (hi := 15) hb
          obtain ⟨d', d1, d2, d3, d4, d5⟩ := okR_nI (lo := 0) (hi := 15) hd
          obtain ⟨l', l1, l2, l3, l4, l5⟩ := okR_nI (lo := 1) (hi := 5) hl
          rw [a5, b5, d5, l5]
          simp only [ha, hb, hd, hl, Bool.and_self, if_true, show ((↑(0 : Nat) : Int)) = 0 from rfl, show ((↑(15 : Nat) : Int)) = 15 from rfl, show ((↑(1 : Nat) : Int)) = 1 from rfl, show ((↑(5 : Nat) : Int)) = 5 from rfl, Bool.true_eq_false, if_false]
          simp (disch := omega) only [z_ld, h, z_bi, z_eq]
          by_cases e : c 0 = 5
          · simp only [e, if_true]
            exact ⟨σ, rfl, MP.rf h⟩
          · simp only [e, if_false]
            rw [a4, b4, d4, l4]
            simp (disch := omega) only [z_mul, z_add, z_st, z_bi]
            have q1 := MR_cu h (k := 1 + 4 * c 0) (v := a')
            have q2 := MR_cu q1 (k := 1 + 4 * c 0 + 1) (v := b')
            have q3 := MR_cu q2 (k := 1 + 4 * c 0 + 2) (v := d')
            have q4 := MR_cu q3 (k := 1 + 4 * c 0 + 3) (v := l')
            have e0 : cu (cu (cu (cu c (1 + 4 * c 0) a') (1 + 4 * c 0 + 1) b') (1 + 4 * c 0 + 2) d') (1 + 4 * c 0 + 3) l' 0 = c 0 := by
              rw [cu_2 _ _ (by omega), cu_2 _ _ (by omega), cu_2 _ _ (by omega), cu_2 _ _ (by omega)]
            simp (disch := omega) only [z_ld, q4, z_bi, e0, z_add, z_st]
            have q5 := MR_cu q4 (k := 0) (v := c 0 + 1)
            rw [s_I2 _ _ _ (by decide)]
            simp (disch := omega) only [z_ld, q5, z_bi, cu_1, z_sub]
            refine ⟨_, rfl, ?_, ?_, ?_, ?_⟩
            · intro k hk
              rw [s_I2 _ _ _ (by decide)]
              exact q5 k hk
            · refine fr.tr ?_ (fr.sI (by simp))
              exact ((((fr.sI (by simp)).tr (fr.sI (by simp))).tr (fr.sI (by simp))).tr (fr.sI (by simp))).tr (fr.sI (by simp))
            · intro k hk
              rw [s_I1, u_2 _ _ hk]
              simp only [s_I2 _ _ _ (show (67 : Nat) ≠ 68 by decide)]
            · left
              rw [s_I1, u_1]
              rfl
        · have hl' : okR 1 5 l = false := by simpa using hl
          simp only [ha, hb, hd, hl', show ((↑(0 : Nat) : Int)) = 0 from rfl, show ((↑(15 : Nat) : Int)) = 15 from rfl, show ((↑(1 : Nat) : Int)) = 1 from rfl, show ((↑(5 : Nat) : Int)) = 5 from rfl, Bool.true_eq_false, if_false, if_true, Bool.and_false, Bool.false_eq_true]
          exact ⟨σ, rfl, MP.rf h⟩
      · have hd' : okR 0 15 d = false := by simpa using hd
        simp only [ha, hb, hd', show ((↑(0 : Nat) : Int)) = 0 from rfl, show ((↑(15 : Nat) : Int)) = 15 from rfl, Bool.true_eq_false, if_false, if_true, Bool.and_false, Bool.false_and, Bool.false_eq_true]
        exact ⟨σ, rfl, MP.rf h⟩
    · have hb' : okR 0 15 b = false := by simpa using hb
      simp only [ha, hb', show ((↑(0 : Nat) : Int)) = 0 from rfl, show ((↑(15 : Nat) : Int)) = 15 from rfl, Bool.true_eq_false, if_false, if_true, Bool.and_false, Bool.false_and, Bool.false_eq_true]
      exact ⟨σ, rfl, MP.rf h⟩
  · have ha' : okR 0 15 a = false := by simpa using ha
    simp only [ha', show ((↑(0 : Nat) : Int)) = 0 from rfl, show ((↑(15 : Nat) : Int)) = 15 from rfl, if_true, Bool.false_and, Bool.false_eq_true, if_false]
    exact ⟨σ, rfl, MP.rf h⟩
theorem m_doSets {c : Cf} {σ : HS} (h : MR c σ) (w : WF c) (x v : Int32) : ∃ σ', f_X9_doSets x v σ = some ((opS x v c).1, σ') ∧ MP c (opS x v c).2 σ σ' := by
  rw [f_X9_doSets]
  simp (disch := omega) only [z_lit, m_inR, z_bi, b2_0]
  unfold opS
  simp only [show ((↑(0 : Nat) : Int)) = 0 from rfl, show ((↑(1 : Nat) : Int)) = 1 from rfl]
  have h21 := w.p_wd
  have h22 := w.p_rn
  by_cases e0 : x = 0
  · subst e0
    have q1 : okR 0 1 (0 : Int32) = true := by decide
    have q2 : nI 1 - (0 : Int32) = nI 1 := by decide
    have q3 : nI 3 - nI 2 * (0 : Int32) = nI 3 := by decide
    have q4 : nI 21 + (0 : Int32) = nI 21 := by decide
    have q5 : ¬ (0 : Int32) = 1 := by decide
    simp (disch := omega) only [q1, q2, q3, q4, q5, m_inR, z_bi, b2_0, Bool.true_eq_false, if_false, true_and, false_and]
    simp only [show ((↑(1 : Nat) : Int)) = 1 from rfl, show ((↑(3 : Nat) : Int)) = 3 from rfl]
    by_cases ok : okR 1 3 v = true
    · obtain ⟨v', a1, a2, a3, a4, a5⟩ := okR_nI (lo := 1) (hi := 3) ok
      simp (disch := omega) only [ok, Bool.true_eq_false, if_false, if_true, z_ld, z_bi, h, a5]
      rw [a4]
      simp (disch := omega) only [z_st, z_bi]
      exact ⟨_, rfl, MP.one h (by omega)⟩
    · have ok' : okR 1 3 v = false := by simpa using ok
      simp only [ok', if_true, Bool.false_eq_true, if_false]
      exact ⟨σ, rfl, MP.rf h⟩
  · by_cases e1 : x = 1
    · subst e1
      have q1 : okR 0 1 (1 : Int32) = true := by decide
      have q2 : nI 1 - (1 : Int32) = nI 0 := by decide
      have q3 : nI 3 - nI 2 * (1 : Int32) = nI 1 := by decide
      have q4 : nI 21 + (1 : Int32) = nI 22 := by decide
      simp (disch := omega) only [q1, q2, q3, q4, e0, m_inR, z_bi, b2_0, Bool.true_eq_false, if_false, true_and, false_and]
      simp only [show ((↑(0 : Nat) : Int)) = 0 from rfl, show ((↑(1 : Nat) : Int)) = 1 from rfl]
      by_cases ok : okR 0 1 v = true
      · obtain ⟨v', a1, a2, a3, a4, a5⟩ := okR_nI (lo := 0) (hi := 1) ok
        simp (disch := omega) only [ok, Bool.true_eq_false, if_false, if_true, z_ld, z_bi, h, a5]
        rw [a4]
        simp (disch := omega) only [z_st, z_bi]
        exact ⟨_, rfl, MP.one h (by omega)⟩
      · have ok' : okR 0 1 v = false := by simpa using ok
        simp only [ok', if_true, Bool.false_eq_true, if_false]
        exact ⟨σ, rfl, MP.rf h⟩
    · have q1 : okR 0 1 x = false := by
        rw [okR_f]
        intro hh
        obtain ⟨n, a, b, d⟩ := z_of (v := x) hh.1
        have : n = 0 ∨ n = 1 := by omega
        rcases this with r | r
        · exact e0 (by rw [b, r]; rfl)
        · exact e1 (by rw [b, r]; rfl)
      simp only [q1, if_true, e0, e1, false_and, if_false]
      exact ⟨σ, rfl, MP.rf h⟩
theorem m_doInstruction {c : Cf} {σ : HS} (h : MR c σ) (w : WF c) (x : Int32) : ∃ σ', f_X9_doInstruction x σ = some ((opI x c).1, σ') ∧ MP c (opI x c).2 σ σ' := by
  have h1 := w.p_n
  rw [f_X9_doInstruction, m_isKind h w]
  unfold opI
  simp (disch := omega) only [z_lit, z_bi, b2_0, z_ld, h, z_eq]
  by_cases ok : 0 ≤ x.toInt ∧ x.toInt < (c 0 : Int)
  · obtain ⟨n, a, b, d⟩ := z_of (v := x) ok.1
    have e1 : decide (0 ≤ x.toInt ∧ x.toInt < (c 0 : Int)) = true := by simpa using ok
    simp only [e1, Bool.true_eq_false, if_false, if_pos ok]
    by_cases e : c 23 = 6
    · simp only [e, if_true]
      exact ⟨σ, rfl, MP.rf h⟩
    · simp only [e, if_false]
      rw [show x.toInt.toNat = n by omega, b]
      have q1 := MR_cu h (k := 24 + c 23) (v := n)
      have e0 : cu c (24 + c 23) n 23 = c 23 := cu_2 _ _ (by omega)
      have q2 := MR_cu q1 (k := 23) (v := c 23 + 1)
      simp (disch := omega) only [z_add, z_st, z_bi, z_ld, q1, e0, q2, cu_1, z_sub]
      exact ⟨_, rfl, (MP.one h (by omega)).tr (MP.one q1 (by omega))⟩
  · have e1 : decide (0 ≤ x.toInt ∧ x.toInt < (c 0 : Int)) = false := by simpa using ok
    simp only [e1, if_true, if_neg ok]
    exact ⟨σ, rfl, MP.rf h⟩
