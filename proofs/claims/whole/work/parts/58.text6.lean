theorem m_reads {a : AS} {σ : HS} (h : IM a σ) (w : WA a) : ∃ σ', f_X9_reads σ = some ((aReads a).1, σ') ∧ IM (aReads a).2 σ' ∧ ME a (aReads a).2 σ σ' ∧ frM σ σ' := by
  obtain ⟨h1, h2, h3, h4, h5, h6⟩ := id h
  obtain ⟨w1, w2, w3, w4, w5⟩ := id w
  generalize hL : aL a = L at *
  generalize hX : aT a = tx at *
  -- nothing but places, faults, orders has changed
  have hq : ∀ τ, fT σ τ → IM a τ ∧ ME a a σ τ ∧ frM σ τ := by
    intro τ hτ
    have f := hτ.1
    refine ⟨⟨fun k hk => by rw [f 68 (by simp)]; exact h1 k hk, by rw [hτ.2 3 (by omega)]; exact h2, by rw [f 70 (by simp)]; exact h3, by rw [f 71 (by simp)]; exact h4, by rw [hτ.2 18 (by omega), hL]; exact h5, by rw [f 81 (by simp), hL, hX]; exact h6⟩, ⟨Or.inr ⟨hτ.2 5 (by omega), fun _ _ => rfl⟩, hτ.2 6 (by omega), hτ.2 9 (by omega), f 72 (by simp), f 73 (by simp), f 74 (by simp)⟩, f.toM (by simp)⟩
  have h0 : TM L tx 0 (-1) 0 (sI (sI (sI σ 67 19 0) 67 20 (-1)) 67 21 0) := by
    refine ⟨w4, w5, Nat.zero_le _, by omega, ?_, ?_, ?_, ?_, ?_⟩
    · simp (disch := omega) only [s_I1, u_2, h5]
    · simp (disch := omega) only [s_I1, u_2, u_1]; rfl
    · simp (disch := omega) only [s_I1, u_2, u_1]
    · simp (disch := omega) only [s_I1, u_1]; rfl
    · simp (disch := omega) only [s_I2]; exact h6
  have hT0 : fT σ (sI (sI (sI σ 67 19 0) 67 20 (-1)) 67 21 0) := ((fT.i67 (by omega)).tr (fT.i67 (by omega))).tr (fT.i67 (by omega))
  obtain ⟨σ1, e1, e2, e3, e4, e5⟩ := m_here h0
  rw [f_X9_reads, e1]
  simp only [z_bi]
  have hT1 := hT0.tr e3
  have hP0 : orP L tx 0 = sk L tx 0 := rfl
  -- an end by a fault
  have hflt : ∀ (g n : Nat) (τ : HS), g ≤ 120 → τ.1 67 20 = nI g → f_X9_reads_32 (n + 1) τ = some (-10 - nI g, τ) := by
    intro g n τ hg h20
    have hne : ¬ nI g = -1 := z_ne (by omega) (k := 1) (by omega)
    rw [f_X9_reads_32, h20, if_neg hne, f_X9_reads_55, h20, if_neg hne]
  by_cases p0 : orP L tx 0 < L
  · have hA : aReads a = aScn a (scF L tx 41 0) := by unfold aReads; rw [hL, hX, if_pos p0]
    rw [hA]
    rw [hP0] at p0
    rw [if_pos p0]
    have hb0 : ¬ nI (tx (sk L tx 0)) = -1 := z_ne (by have := w5 _ p0; omega) (k := 1) (by omega)
    rw [if_neg hb0, show (1 : Int32) = nI (b2 true) from rfl, m_must e2 true]
    simp only [z_bi, if_true]
    generalize hR : scF L tx 41 0 = R
    have key : ∀ (n i q : Nat) (τ : HS), i ≤ 40 → 42 ≤ i + n → (∀ j, j < i → orP L tx j < L ∧ (orE L tx (orP L tx j)).1 = true) → sk L tx q = orP L tx i → TM L tx q (-1) i τ → fT σ τ → OR L tx i 82 83 τ → R = scF L tx (41 - i) i → ∃ σ', f_X9_reads_32 n τ = some ((aScn a R).1, σ') ∧ IM (aScn a R).2 σ' ∧ ME a (aScn a R).2 σ σ' ∧ frM σ σ' := by
      intro n
      induction n with
      | zero => intro i q τ hi hn; omega
      | succ n ih =>
        intro i q τ hi hn hall hsk hτ hf hor hsc
        obtain ⟨b1, b2'⟩ := orP_le i hall
        obtain ⟨t1, t2, t3, t4, t5, t6, t7, t8, t9⟩ := id hτ
        rw [f_X9_reads_32, t7, if_pos rfl]
        obtain ⟨τ1, g1, g2, g3, g4, g5⟩ := m_here hτ
        rw [hsk] at g1 g2
        rw [g1]
        simp only [z_bi]
        have hf1 := hf.tr g3
        have hor1 : OR L tx i 82 83 τ1 := by unfold OR; rw [g4, g5]; exact hor
        by_cases pq : orP L tx i < L
        · have hb : ¬ nI (tx (orP L tx i)) = -1 := z_ne (by have := w5 _ pq; omega) (k := 1) (by omega)
          rw [if_pos pq, if_neg hb]
          obtain ⟨τ2, d1, d2, d3, d4⟩ := m_order g2 pq (orP_sk tx t1 i) (by omega)
          obtain ⟨o1, o2, o3⟩ := orE_le (tx := tx) pq
          rw [d1]
          simp only [z_bi]
          rw [show 41 - i = (41 - (i + 1)) + 1 by omega, scF, if_pos pq] at hsc
          have hf2 := hf1.tr d2
          cases ho : (orE L tx (orP L tx i)).1 with
          | false =>
            rw [ho, if_neg (by decide)] at hsc
            obtain ⟨n, rfl⟩ : ∃ m, n = m + 1 := ⟨n - 1, by omega⟩
            rw [hflt _ n τ2 (by omega) (d3 ho), hsc]
            obtain ⟨x1, x2, x3⟩ := hq τ2 hf2
            exact ⟨τ2, rfl, x1, x2, x3⟩
          | true =>
            rw [ho, if_pos rfl] at hsc
            obtain ⟨v1, v2, v3, v4, v5⟩ := d4 ho
            have hall' : ∀ j, j < i + 1 → orP L tx j < L ∧ (orE L tx (orP L tx j)).1 = true := by
              intro j hj
              by_cases e : j = i
              · subst e; exact ⟨pq, ho⟩
              · exact hall j (by omega)
            obtain ⟨b3, b4⟩ := orP_le (i + 1) hall'
            refine ih (i + 1) _ τ2 (by omega) (by omega) hall' rfl v1 hf2 ?_ hsc
            intro x hx
            by_cases e : x = i
            · subst e; exact ⟨v4, v5⟩
            · rw [v2 x e]
              refine ⟨(hor1 x (by omega)).1, fun k hk => ?_⟩
              have := nbh_le (tx (orP L tx x))
              rw [v3 _ (by omega)]
              exact (hor1 x (by omega)).2 k hk
        · -- all orders are read: they are done
          rw [if_neg pq, if_pos rfl]
          have hsc2 : R = .inr i := by
            rw [hsc, show 41 - i = (40 - i) + 1 by omega, scF, if_neg pq]
          rw [hsc2]
          have hAF : aScn a (.inr i) = aFin a i (runO L tx i 0 (aC a)) := by show aFin a i (runO (aL a) (aT a) i 0 (aC a)) = _; rw [hL, hX]
          rw [hAF]
          generalize hRun : runO L tx i 0 (aC a) = Q
          obtain ⟨u1, u2, u3, u4, u5, u6, u7, u8, u9⟩ := id g2
          rw [f_X9_reads_55, u7, if_pos rfl]
          obtain ⟨f, k1, k2⟩ := m_hold τ1
          rw [k1]
          simp only [z_bi]
          obtain ⟨x1, x2, x3⟩ := hq τ1 hf1
          have hfh : fr [69] τ1 (sA τ1 69 f) := fr.sA (by simp)
          have key2 : ∀ (r j : Nat) (c : Cf) (n : Nat) (υ : HS), j + r = i → r < n → WF c → MP (aC a) c (sA τ1 69 f) υ → Q = runO L tx r j c → ∃ σ', f_X9_reads_77 n (nI j) υ = some ((aFin a i Q).1, σ') ∧ IM (aFin a i Q).2 σ' ∧ ME a (aFin a i Q).2 σ σ' ∧ frM σ σ' := by
            intro r
            induction r with
            | zero =>
              intro j c n υ hj hn wc hmp hr
              obtain ⟨n, rfl⟩ : ∃ m, n = m + 1 := ⟨n - 1, by omega⟩
              obtain ⟨y1, y2, y3, y4⟩ := hmp
              rw [hfh 67 (by simp)] at y3 y4
              have k21 : υ.1 67 21 = nI i := by rw [y3 21 (by omega)]; exact u8
              rw [f_X9_reads_77, k21]
              simp (disch := omega) only [z_le]
              rw [runO] at hr
              rw [if_pos (by omega), hr]
              obtain ⟨z1, z2', z3, z4, z5, z6⟩ := x1
              have h69 : ∀ k, k < 66 → υ.1 69 k = nI (aC a k) := by
                intro k hk
                rw [y2 69 (by simp), s_A1, k2 k hk]
                exact z1 k hk
              obtain ⟨σ', p1, p2, p3, p4, p5⟩ := m_push (σ := υ) w2 (by rw [y3 3 (by omega)]; exact z2') (by rw [y2 70 (by simp), hfh 70 (by simp)]; exact z3) h69
              rw [p1]
              simp only [z_bi]
              rw [p3 21 (by omega), k21]
              obtain ⟨x21, x22, x23, x24, x25, x26⟩ := x2
              refine ⟨σ', rfl, ⟨?_, p4, p5, ?_, ?_, ?_⟩, ⟨?_, ?_, ?_, ?_, ?_, ?_⟩, ?_⟩
              · intro k hk; rw [p2 68 (by simp)]; exact y1 k hk
              · rw [p2 71 (by simp), y2 71 (by simp), hfh 71 (by simp)]; exact z4
              · rw [p3 18 (by omega), y3 18 (by omega)]; exact z5
              · rw [p2 81 (by simp), y2 81 (by simp), hfh 81 (by simp)]; exact z6
              · rw [p3 5 (by omega)]
                rcases y4 with y4 | ⟨y4, y5⟩
                · exact Or.inl y4
                · exact Or.inr ⟨y4.trans (hf1.2 5 (by omega)), y5⟩
              · rw [p3 6 (by omega), y3 6 (by omega)]; exact x22
              · rw [p3 9 (by omega), y3 9 (by omega)]; exact x23
              · rw [p2 72 (by simp), y2 72 (by simp), hfh 72 (by simp)]; exact x24
              · rw [p2 73 (by simp), y2 73 (by simp), hfh 73 (by simp)]; exact x25
              · rw [p2 74 (by simp), y2 74 (by simp), hfh 74 (by simp)]; exact x26
              · intro o ho
                rw [p2 o (by simp; omega), y2 o (by simp; omega), hfh o (by simp; omega)]
                exact x3 o ho
            | succ r ih2 =>
              intro j c n υ hj hn wc hmp hr
              obtain ⟨n, rfl⟩ : ∃ m, n = m + 1 := ⟨n - 1, by omega⟩
              obtain ⟨y1, y2, y3, y4⟩ := id hmp
              rw [hfh 67 (by simp)] at y3 y4
              have k21 : υ.1 67 21 = nI i := by rw [y3 21 (by omega)]; exact u8
              rw [f_X9_reads_77, k21]
              simp (disch := omega) only [z_le]
              rw [if_neg (by omega)]
              obtain ⟨c1, c2⟩ := hall j (by omega)
              obtain ⟨c3, c4⟩ := hor1 j (by omega)
              obtain ⟨υ', l1, l2⟩ := m_doOrder (n := orN L tx (orP L tx j)) y1 wc (show j < 40 by omega) (w5 _ c1) (orE_b c2) (by rw [y2 82 (by simp), hfh 82 (by simp)]; exact c3) (by rw [y2 83 (by simp), hfh 83 (by simp)]; exact c4)
              have l1 : f_X9_doOrder (nI j) υ = some ((opX L tx j c).1, υ') := l1
              rw [l1]
              simp only [z_bi]
              rw [runO] at hr
              have hmp2 := hmp.tr l2
              by_cases qq : (opX L tx j c).1 < 0
              · rw [if_pos qq] at hr
                rw [if_neg (Int32.not_le.mpr qq), hr]
                -- back to what was held
                obtain ⟨y1', y2', y3', y4'⟩ := hmp2
                rw [hfh 67 (by simp)] at y3' y4'
                obtain ⟨z1, z2', z3, z4, z5, z6⟩ := x1
                have h69 : ∀ k, k < 66 → υ'.1 69 k = nI (aC a k) := by
                  intro k hk
                  rw [y2' 69 (by simp), s_A1, k2 k hk]
                  exact z1 k hk
                have key3 : ∀ x, x ≤ 66 → ∀ (n : Nat) (ff : Nat → Int32), 66 < x + n → (∀ k, k < x → ff k = nI (aC a k)) → ∃ ff', f_X9_reads_95 n (nI j) (nI x) (sA υ' 68 ff) = some (-1000 - nI j, sI (sA υ' 68 ff') 67 5 0) ∧ ∀ k, k < 66 → ff' k = nI (aC a k) := by
                  refine dn_ind ?_ ?_
                  · intro n ff hn hff
                    obtain ⟨n, rfl⟩ : ∃ m, n = m + 1 := ⟨n - 1, by omega⟩
                    rw [f_X9_reads_95, if_pos (show (66 : Int32) ≤ nI 66 from (z_le (a := 66) (by omega) (by omega)).mpr (by omega))]
                    exact ⟨ff, rfl, hff⟩
                  · intro x hx ih3 n ff hn hff
                    obtain ⟨n, rfl⟩ : ∃ m, n = m + 1 := ⟨n - 1, by omega⟩
                    rw [f_X9_reads_95, if_neg (show ¬ (66 : Int32) ≤ nI x from fun hh => by have := (z_le (a := 66) (by omega) (by omega)).mp hh; omega)]
                    simp (disch := omega) only [s_A2, z_ld, h69, z_bi, z_st, s_II, z_lit, z_add]
                    refine ih3 n _ (by omega) (fun k hk => ?_)
                    by_cases e : k = x
                    · rw [e, u_1]
                    · rw [u_2 _ _ e]; exact hff k (by omega)
                have hk3 := key3 0 (by omega) FU (υ'.1 68) (by have := FU_b; omega) (fun k hk => by omega)
                rw [s_self, show nI 0 = (0 : Int32) from rfl] at hk3
                obtain ⟨ff', m1, m2⟩ := hk3
                rw [m1]
                obtain ⟨x21, x22, x23, x24, x25, x26⟩ := x2
                have hff : fr [67, 68] υ' (sI (sA υ' 68 ff') 67 5 0) := (fr.sA (by simp)).tr (fr.sI (by simp))
                have h67 : ∀ k, k ≠ 5 → (sI (sA υ' 68 ff') 67 5 0).1 67 k = τ1.1 67 k := fun k hk => by
                  simp (disch := omega) only [s_I1, u_2, s_A2]
                  exact y3' k hk
                refine ⟨_, rfl, ⟨?_, ?_, ?_, ?_, ?_, ?_⟩, ⟨Or.inl ?_, ?_, ?_, ?_, ?_, ?_⟩, ?_⟩
                · intro k hk
                  simp (disch := omega) only [s_I2, s_A1]
                  exact m2 k hk
                · rw [h67 3 (by omega)]; exact z2'
                · rw [hff 70 (by simp), y2' 70 (by simp), hfh 70 (by simp)]; exact z3
                · rw [hff 71 (by simp), y2' 71 (by simp), hfh 71 (by simp)]; exact z4
                · rw [h67 18 (by omega)]; exact z5
                · rw [hff 81 (by simp), y2' 81 (by simp), hfh 81 (by simp)]; exact z6
                · rw [s_I1, u_1]
                · rw [h67 6 (by omega)]; exact x22
                · rw [h67 9 (by omega)]; exact x23
                · rw [hff 72 (by simp), y2' 72 (by simp), hfh 72 (by simp)]; exact x24
                · rw [hff 73 (by simp), y2' 73 (by simp), hfh 73 (by simp)]; exact x25
                · rw [hff 74 (by simp), y2' 74 (by simp), hfh 74 (by simp)]; exact x26
                · intro o ho
                  rw [hff o (by simp; omega), y2' o (by simp; omega), hfh o (by simp; omega)]
                  exact x3 o ho
              · rw [if_neg qq] at hr
                rw [if_pos (Int32.not_lt.mp qq), z_lit, z_add]
                exact ih2 (j + 1) _ n υ' (by omega) (by omega) (WF_O wc _ _) hmp2 hr
          have hk2 := key2 i 0 (aC a) FU (sA τ1 69 f) (by omega) (by have := FU_b; omega) w1 (MP.rf (fun k hk => by rw [hfh 68 (by simp)]; exact x1.1 k hk)) hRun.symm
          rw [show nI 0 = (0 : Int32) from rfl] at hk2
          exact hk2
    exact key FU 0 (sk L tx 0) σ1 (by omega) (by have := FU_b; omega) (fun j hj => by omega) (sk_sk tx 0 w4) e2 hT1 (fun i hi => by omega) hR.symm
  · have hA : aReads a = (-10 - nI L, a) := by unfold aReads; rw [hL, hX, if_neg p0]
    rw [hA]
    rw [hP0] at p0
    have hsL : sk L tx 0 = L := by have := sk_le tx (Nat.zero_le L); omega
    rw [if_neg p0, if_pos rfl, show (0 : Int32) = nI (b2 false) from rfl, m_must e2 false]
    simp only [z_bi, Bool.false_eq_true, if_false]
    rw [FU_s 1 (by omega), hsL, hflt L _ _ (by omega) (by rw [s_I1, u_1])]
    obtain ⟨x1, x2, x3⟩ := hq _ (hT1.tr (fT.i67 (k := 20) (x := nI L) (by omega)))
    exact ⟨_, rfl, x1, x2, x3⟩
