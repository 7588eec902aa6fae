-- no plan is shorter than the bound
theorem fb_w {c : Cf} {T : Nat → Nat} (h : PL c T) : ∀ L, fb_ct (fun j => decide (T j < L)) (c 23) ≤ c 21 * L := by
  intro L
  induction L with
  | zero => exact Nat.le_of_eq (fb_ct_zero.mpr (fun k _ => by simp))
  | succ L ih =>
    have h1 := fb_ct_orle (fun j => decide (T j < L)) (fun j => decide (T j = L)) (c 23)
    have h2 : fb_ct (fun j => decide (T j < L + 1)) (c 23) = fb_ct (fun j => decide (T j < L) || decide (T j = L)) (c 23) := by
      refine fb_ct_cong (fun k _ => ?_)
      by_cases e1 : T k < L <;> by_cases e2 : T k = L <;> simp [e1, e2] <;> omega
    have h3 : fb_ct (fun j => decide (T j = L)) (c 23) ≤ c 21 := by
      by_cases e : ∃ i, i < c 23 ∧ T i = L
      · obtain ⟨i, i1, i2⟩ := e
        have := h.2.2 i i1
        rw [i2] at this
        exact this
      · have : fb_ct (fun j => decide (T j = L)) (c 23) = 0 := fb_ct_zero.mpr (fun k hk => by
          have : ¬ T k = L := fun q => e ⟨k, hk, q⟩
          simp [this])
        omega
    rw [h2, Nat.mul_succ]
    omega
theorem b0_len {c : Cf} (w : WF c) {T : Nat → Nat} (h : PL c T) : b0 c ≤ len c T := by
  have hw := w.p_wd
  have h1 := fb_w h (len c T)
  have h2 : fb_ct (fun j => decide (T j < len c T)) (c 23) = c 23 := fb_ct_all.mpr (fun k hk => by
    have h1 := len_ge c T hk
    have h2 := sp_b w hk
    simp; omega)
  unfold b0
  have : (c 23 + c 21 - 1) / c 21 < len c T + 1 := by
    rw [Nat.div_lt_iff_lt_mul (by omega), Nat.add_mul]
    rw [Nat.mul_comm] at h1
    omega
  omega
def ocF (c : Cf) (T : Nat → Nat) (u : Nat) : Nat → Nat → Bool
  | 0, _ => false
  | m + 1, s => ocF c T u m s || (decide (T m ≤ s) && (hu c m u).testBit (s - T m))
theorem ocF_i (c : Cf) (T : Nat → Nat) (u : Nat) : ∀ m s, ocF c T u m s = true ↔ ∃ i, i < m ∧ T i ≤ s ∧ (hu c i u).testBit (s - T i) = true := by
  intro m
  induction m with
  | zero => intro s; exact ⟨fun h => (by cases h), fun ⟨i, h, _⟩ => by omega⟩
  | succ m ih =>
    intro s
    rw [ocF, Bool.or_eq_true, ih, Bool.and_eq_true, decide_eq_true_eq]
    constructor
    · rintro (⟨i, h1, h2⟩ | h)
      · exact ⟨i, by omega, h2⟩
      · exact ⟨m, by omega, h⟩
    · rintro ⟨i, h1, h2⟩
      by_cases e : i = m
      · right; rw [← e]; exact h2
      · left; exact ⟨i, by omega, h2⟩
theorem fb_ct_tail {p : Nat → Bool} {a : Nat} (h : ∀ k, a ≤ k → p k = false) : ∀ d, fb_ct p (a + d) = fb_ct p a := by
  intro d
  induction d with
  | zero => rfl
  | succ d ih => rw [← Nat.add_assoc, fb_ct_succ, ih, h (a + d) (by omega)]; rfl
theorem fb_ct_tl {p : Nat → Bool} {a b : Nat} (h1 : ∀ k, a ≤ k → p k = false) (h2 : ∀ k, b ≤ k → p k = false) : fb_ct p a = fb_ct p b := by
  rcases Nat.le_total a b with g | g
  · rw [show b = a + (b - a) by omega, fb_ct_tail h1]
  · rw [show a = b + (a - b) by omega, fb_ct_tail h2]
theorem hu_tp {c : Cf} (w : WF c) {i u t : Nat} (hi : i < c 23) (hu' : u < 3) (h : (hu c i u).testBit t = true) : t + 1 ≤ sp c i := by
  have ht : t < 4 := by
    rcases Nat.lt_or_ge t 4 with g | g
    · exact g
    · rw [hu_b w hi hu' g] at h; cases h
  have hb : (hun c i).testBit t = true := by
    unfold hun
    rw [Nat.testBit_or, Nat.testBit_or]
    rcases (show u = 0 ∨ u = 1 ∨ u = 2 by omega) with rfl | rfl | rfl <;> simp [h]
  have : t + 1 ≤ tp (hun c i) := by
    unfold tp
    rcases (show t = 0 ∨ t = 1 ∨ t = 2 ∨ t = 3 by omega) with rfl | rfl | rfl | rfl <;> simp only [hb] <;> repeat' split
    all_goals first | omega | (simp at *)
  unfold sp
  omega
theorem hd_len {c : Cf} (w : WF c) {T : Nat → Nat} (h : PL c T) {u : Nat} (hu' : u < 3) : hd c u ≤ len c T := by
  have key : ∀ m, m ≤ c 23 → smF (fun i => pcn (hu c i u) 4) m ≤ fb_ct (ocF c T u m) (len c T) := by
    intro m
    induction m with
    | zero => intro _; exact Nat.zero_le _
    | succ m ih =>
      intro hm
      have ih := ih (by omega)
      have hT := len_ge c T (show m < c 23 by omega)
      have e1 : fb_ct (ocF c T u (m + 1)) (len c T) = fb_ct (ocF c T u m) (len c T) + fb_ct (fun s => decide (T m ≤ s) && (hu c m u).testBit (s - T m)) (len c T) := by
        rw [← fb_ct_or]
        · exact fb_ct_cong (fun k _ => rfl)
        · rintro k _ ⟨q1, q2⟩
          obtain ⟨i, i1, i2, i3⟩ := (ocF_i c T u m k).mp q1
          rw [Bool.and_eq_true, decide_eq_true_eq] at q2
          exact h.2.1 i m (by omega) (by omega) (by omega) ⟨u, hu', k, ⟨i2, i3⟩, q2⟩
      have e2 : fb_ct (fun s => decide (T m ≤ s) && (hu c m u).testBit (s - T m)) (len c T) = pcn (hu c m u) 4 := by
        rw [show len c T = T m + (len c T - T m) by omega, fb_ct_split, fb_ct_zero.mpr (fun k hk => by simp; omega), Nat.zero_add]
        have : fb_ct (fun k => decide (T m ≤ T m + k) && (hu c m u).testBit (T m + k - T m)) (len c T - T m) = fb_ct (fun t => (hu c m u).testBit t) (len c T - T m) := fb_ct_cong (fun k _ => by
          rw [show T m + k - T m = k by omega]; simp)
        rw [this]
        refine fb_ct_tl (fun k hk => ?_) (fun k hk => hu_b w (by omega) hu' hk)
        cases q : (hu c m u).testBit k with
        | false => rfl
        | true => have := hu_tp w (show m < c 23 by omega) hu' q; omega
      rw [smF, e1, e2]
      omega
  exact Nat.le_trans (key (c 23) (Nat.le_refl _)) (fb_ct_le _ _)
theorem bnd_len {c : Cf} (w : WF c) {T : Nat → Nat} (h : PL c T) : bnd c ≤ len c T := by
  have h1 := b0_len w h
  have h2 : mxF (wy c) (c 23) ≤ len c T := mxF_le (fun k hk => by have := (PL_QP w h).2 k hk; omega)
  have h3 : mxF (hd c) 3 ≤ len c T := mxF_le (fun k hk => hd_len w h hk)
  unfold bnd
  omega
-- those that can change places
def LK (c : Cf) (i j : Nat) : Prop := hm c (ko c i) = hm c (ko c j) ∧ sp c i = sp c j ∧ ct c i j = 0 ∧ ct c j i = 0 ∧ ∀ m, m < c 23 → m ≠ i → m ≠ j → dv c i m = dv c j m ∧ dv c m i = dv c m j
theorem dv_0 {c : Cf} (w : WF c) {i j : Nat} (hj : j < c 23) : dv c i j = -1 ↔ ct c i j = 0 := by
  have := dd_le w (i := i) hj
  unfold dv
  by_cases e : ct c i j = 0
  · rw [if_pos e]; exact ⟨fun _ => e, fun _ => rfl⟩
  · rw [if_neg e]; exact ⟨fun q => absurd q (z_ne (by omega) (k := 1) (by omega)), fun q => absurd q e⟩
theorem dv_e {c : Cf} (w : WF c) {i j a b : Nat} (hj : j < c 23) (hb : b < c 23) (h : dv c i j = dv c a b) : (ct c i j = 0 ↔ ct c a b = 0) ∧ (ct c i j ≠ 0 → dd c i j = dd c a b) := by
  have e : ct c i j = 0 ↔ ct c a b = 0 := by rw [← dv_0 w hj, ← dv_0 w hb, h]
  refine ⟨e, fun q => ?_⟩
  have h1 := dd_le w (i := i) hj
  have h2 := dd_le w (i := a) hb
  unfold dv at h
  rw [if_neg q, if_neg (fun g => q (e.mpr g)), z_eq (by omega) (by omega)] at h
  exact h
theorem LK.sym {c : Cf} {i j : Nat} (h : LK c i j) : LK c j i := ⟨h.1.symm, h.2.1.symm, h.2.2.2.1, h.2.2.1, fun m h1 h2 h3 => ⟨(h.2.2.2.2 m h1 h3 h2).1.symm, (h.2.2.2.2 m h1 h3 h2).2.symm⟩⟩
theorem LK.tr {c : Cf} (w : WF c) {i j k : Nat} (hi : i < c 23) (hj : j < c 23) (hk : k < c 23) (n1 : i ≠ j) (n2 : j ≠ k) (n3 : i ≠ k) (h : LK c i j) (h' : LK c j k) : LK c i k := by
  have hn := w.p_n
  have e1 := h.2.2.2.2 k hk (by omega) (by omega)
  refine ⟨h.1.trans h'.1, h.2.1.trans h'.2.1, ?_, ?_, fun m hm m1 m2 => ?_⟩
  · exact (dv_e w hk hk e1.1).1.mpr h'.2.2.1
  · exact (dv_e w hi hj e1.2).1.mpr h'.2.2.2.1
  · by_cases e : m = j
    · subst e
      refine ⟨?_, ?_⟩
      · rw [(dv_0 w hj).mpr h.2.2.1, (dv_0 w hj).mpr h'.2.2.2.1]
      · rw [(dv_0 w hi).mpr h.2.2.2.1, (dv_0 w hk).mpr h'.2.2.1]
    · have a := h.2.2.2.2 m hm m1 e
      have b := h'.2.2.2.2 m hm e m2
      exact ⟨a.1.trans b.1, a.2.trans b.2⟩
theorem LK_hu {c : Cf} (w : WF c) {i j : Nat} (hi : i < c 23) (hj : j < c 23) (h : LK c i j) {u : Nat} (hu' : u < 3) (t : Nat) : (hu c i u).testBit t = (hu c j u).testBit t := by
  rcases Nat.lt_or_ge t 4 with g | g
  · rw [← hm_u w hi hu' g, ← hm_u w hj hu' g, h.1]
  · rw [hu_b w hi hu' g, hu_b w hj hu' g]
def swp (i j k : Nat) : Nat := if k = i then j else if k = j then i else k
theorem fb_ct_swp (p : Nat → Bool) {i j n : Nat} (hi : i < n) (hj : j < n) (hne : i ≠ j) : fb_ct (fun k => p (swp i j k)) n = fb_ct p n := by
  have h1 := fb_ct_upd p (p j) hi
  have h2 := fb_ct_upd (fun k => if k = i then p j else p k) (p i) hj
  have h3 : fb_ct (fun k => p (swp i j k)) n = fb_ct (fun k => if k = j then p i else (fun k => if k = i then p j else p k) k) n := fb_ct_cong (fun k _ => by
    unfold swp
    by_cases e1 : k = i
    · rw [if_pos e1, if_neg (by omega)]; simp [e1]
    · by_cases e2 : k = j
      · rw [if_neg e1, if_pos e2, if_pos e2]
      · rw [if_neg e1, if_neg e2, if_neg e2]; simp [e1])
  rw [h3]
  simp only [ite_self] at h2
  have h4 : ∀ a b d x y : Nat, a + x = b + y → d + y = a + x → d = b := fun a b d x y q1 q2 => by omega
  exact h4 _ _ _ _ _ h1 h2
theorem LK_swp {c : Cf} (w : WF c) {i j : Nat} (hi : i < c 23) (hj : j < c 23) (hne : i ≠ j) (h : LK c i j) {T : Nat → Nat} {l : Nat} (hq : QP c l T) : QP c l (fun k => T (swp i j k)) := by
  have hn := w.p_n
  have sw1 : swp i j i = j := by unfold swp; rw [if_pos rfl]
  have sw2 : swp i j j = i := by unfold swp; rw [if_neg (by omega), if_pos rfl]
  have sw3 : ∀ k, k ≠ i → k ≠ j → swp i j k = k := fun k a b => by unfold swp; rw [if_neg a, if_neg b]
  have swb : ∀ k, k < c 23 → swp i j k < c 23 := fun k hk => by unfold swp; split; exact hj; split; exact hi; exact hk
  have swi : ∀ a b, a ≠ b → swp i j a ≠ swp i j b := by
    intro a b hab
    unfold swp
    split <;> split <;> (try split) <;> (try split) <;> omega
  have e : ∀ a b, a < c 23 → b < c 23 → ct c a b ≠ 0 → ct c (swp i j a) (swp i j b) ≠ 0 ∧ dd c (swp i j a) (swp i j b) = dd c a b := by
    intro a b ha hb hab
    by_cases a1 : a = i
    · subst a1
      by_cases b1 : b = a
      · subst b1; exact absurd (ct_ii w (by omega)) hab
      · by_cases b2 : b = j
        · subst b2; exact absurd h.2.2.1 hab
        · have := dv_e w hb hb (h.2.2.2.2 b hb b1 b2).1
          rw [sw1, sw3 b b1 b2]
          exact ⟨fun q => hab (this.1.mpr q), (this.2 hab).symm⟩
    · by_cases a2 : a = j
      · subst a2
        by_cases b1 : b = i
        · subst b1; exact absurd h.2.2.2.1 hab
        · by_cases b2 : b = a
          · subst b2; exact absurd (ct_ii w (by omega)) hab
          · have := dv_e w hb hb (h.2.2.2.2 b hb b1 b2).1.symm
            rw [sw2, sw3 b b1 b2]
            exact ⟨fun q => hab (this.1.mpr q), (this.2 hab).symm⟩
      · have hd' := h.2.2.2.2 a ha a1 a2
        rw [sw3 a a1 a2]
        by_cases b1 : b = i
        · subst b1
          have := dv_e w hb hj hd'.2
          rw [sw1]
          exact ⟨fun q => hab (this.1.mpr q), (this.2 hab).symm⟩
        · by_cases b2 : b = j
          · subst b2
            have := dv_e w hb hi hd'.2.symm
            rw [sw2]
            exact ⟨fun q => hab (this.1.mpr q), (this.2 hab).symm⟩
          · rw [sw3 b b1 b2]; exact ⟨hab, rfl⟩
  have eh : ∀ a u t, u < 3 → (hu c (swp i j a) u).testBit t = (hu c a u).testBit t := by
    intro a u t hu'
    by_cases a1 : a = i
    · rw [a1, sw1]; exact (LK_hu w hi hj h hu' t).symm
    · by_cases a2 : a = j
      · rw [a2, sw2]; exact LK_hu w hi hj h hu' t
      · rw [sw3 a a1 a2]
  have ec : ∀ a b ta tb, CL c a ta b tb → CL c (swp i j a) ta (swp i j b) tb := by
    rintro a b ta tb ⟨u, hu', s, ⟨s1, s2⟩, s3, s4⟩
    exact ⟨u, hu', s, ⟨s1, by rw [eh a u _ hu']; exact s2⟩, s3, by rw [eh b u _ hu']; exact s4⟩
  have pl : PL c (fun k => T (swp i j k)) := by
    refine ⟨fun a b ha hb q => ?_, fun a b ha hb hab q => ?_, fun a ha => ?_⟩
    · have h1 := e a b ha hb q
      have h2 := hq.1.1 _ _ (swb a ha) (swb b hb) h1.1
      rw [h1.2] at h2
      exact h2
    · exact hq.1.2.1 _ _ (swb a ha) (swb b hb) (swi a b hab) (ec a b _ _ q)
    · have h1 := hq.1.2.2 _ (swb a ha)
      have h2 : cnt (fun k => T (swp i j k)) (T (swp i j a)) (c 23) = cnt T (T (swp i j a)) (c 23) := fb_ct_swp (fun k => decide (T k = T (swp i j a))) hi hj hne
      show cnt (fun k => T (swp i j k)) (T (swp i j a)) (c 23) ≤ c 21
      omega
  refine ⟨pl, PL_wy w pl (fun a ha => ?_)⟩
  have h1 := hq.2 _ (swb a ha)
  have h2 := wy_sp w (swb a ha)
  have h3 : sp c (swp i j a) = sp c a := by
    by_cases a1 : a = i
    · rw [a1, sw1]; exact h.2.1.symm
    · by_cases a2 : a = j
      · rw [a2, sw2]; exact h.2.1
      · rw [sw3 a a1 a2]
  show T (swp i j a) + sp c a ≤ l
  omega
theorem LF_like {c : Cf} (w : WF c) {l : Nat} {T : Nat → Nat} (h : LF c l T) {i j : Nat} (hij : i < j) (hj : j < c 23) (hl : LK c i j) : T i ≤ T j := by
  have q := LK_swp w (by omega) hj (by omega) hl h.1
  have := h.2 i (by omega) _ q (fun k hk => by show T (swp i j k) = T k; unfold swp; rw [if_neg (by omega), if_neg (by omega)])
  have e : swp i j i = j := by unfold swp; rw [if_pos rfl]
  have e2 : T i ≤ T (swp i j i) := this
  rw [e] at e2
  exact e2
theorem topo {c : Cf} (w : WF c) : ∃ π : Nat → Nat, ∀ i j, i < c 23 → j < c 23 → (ct c j i ≠ 0 ∨ (i < j ∧ LK c i j)) → π i < π j := by
  have hn := w.p_n
  obtain ⟨r, _, r2⟩ := rank_n w
  have ex : ∀ i : Nat, ∃ v, i < c 23 → ((∃ k, k < c 23 ∧ (k = i ∨ (k ≠ i ∧ LK c i k)) ∧ r k = v) ∧ ∀ k, k < c 23 → (k = i ∨ (k ≠ i ∧ LK c i k)) → v ≤ r k) := by
    intro i
    by_cases hi : i < c 23
    · obtain ⟨v, ⟨k, k1, k2, k3⟩, v2⟩ := lp (P := fun v => ∃ k, k < c 23 ∧ (k = i ∨ (k ≠ i ∧ LK c i k)) ∧ r k = v) ⟨r i, i, hi, Or.inl rfl, rfl⟩
      refine ⟨v, fun _ => ⟨⟨k, k1, k2, k3⟩, fun m m1 m2 => ?_⟩⟩
      rcases Nat.lt_or_ge (r m) v with g | g
      · exact absurd ⟨m, m1, m2, rfl⟩ (v2 _ g)
      · exact g
    · exact ⟨0, fun q => absurd q hi⟩
  obtain ⟨f, hf⟩ := Classical.axiomOfChoice ex
  refine ⟨fun i => 6 * f i + i, fun i j hi hj h => ?_⟩
  obtain ⟨⟨k, k1, k2, k3⟩, _⟩ := hf j hj
  have fi := (hf i hi).2
  show 6 * f i + i < 6 * f j + j
  rcases h with h | ⟨h1, h2⟩
  · have hij : i ≠ j := fun q => h (by rw [q]; exact ct_ii w (by omega))
    have h4 := fi i hi (Or.inl rfl)
    rcases k2 with k2 | ⟨k2, k4⟩
    · subst k2
      have := r2 k i (by omega) (by omega) (ct_nd h)
      omega
    · have hki : k ≠ i := fun q => h (by rw [← q]; exact k4.2.2.1)
      have h5 := dv_e w hi hi (k4.2.2.2.2 i hi hij (fun q => hki q.symm)).1
      have := r2 k i (by omega) (by omega) (ct_nd (fun q => h (h5.1.mpr q)))
      omega
  · have : f i ≤ f j := by
      rcases k2 with k2 | ⟨k2, k4⟩
      · subst k2
        rw [← k3]
        exact fi k hj (Or.inr ⟨by omega, h2⟩)
      · by_cases e : k = i
        · subst e; rw [← k3]; exact fi k hi (Or.inl rfl)
        · rw [← k3]
          exact fi k k1 (Or.inr ⟨e, LK.tr w hi hj k1 (by omega) (fun q => k2 q.symm) (fun q => e q.symm) h2 k4⟩)
    omega
