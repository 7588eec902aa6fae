-- numbers
theorem z_lit (n : Nat) : (OfNat.ofNat n : Int32) = nI (OfNat.ofNat n) := rfl
theorem z_add (a b : Nat) : nI a + nI b = nI (a + b) := nI_add a b
theorem z_mul (a b : Nat) : nI a * nI b = nI (a * b) := pk_mul a b
theorem z_sub {a b : Nat} (h : b ≤ a) : nI a - nI b = nI (a - b) := pk_sub h
theorem z_lt {a b : Nat} (ha : a < 2147483648) (hb : b < 2147483648) : nI a < nI b ↔ a < b := nI_ltI ha hb
theorem z_le {a b : Nat} (ha : a < 2147483648) (hb : b < 2147483648) : nI a ≤ nI b ↔ a ≤ b := nI_leI ha hb
theorem z_eq {a b : Nat} (ha : a < 2147483648) (hb : b < 2147483648) : nI a = nI b ↔ a = b := nI_eq ha hb
theorem z_ti {a : Nat} (ha : a < 2147483648) : (nI a).toInt = (a : Int) := nI_toInt ha
theorem z_cl {a : Nat} (ha : a < 2147483648) : (nI a).toNatClampNeg = a := nI_clamp ha
theorem z_31 {b : Nat} (hb : b < 32) : nI b &&& nI 31 = nI b := by
  rw [nx_and]
  congr 1
  rw [show 31 = 2 ^ 5 - 1 by rfl, Nat.and_two_pow_sub_one_eq_mod]
  exact Nat.mod_eq_of_lt (by omega)
theorem z_and (a b : Nat) : nI a &&& nI b = nI (a &&& b) := nx_and a b
theorem z_or (a b : Nat) : nI a ||| nI b = nI (a ||| b) := by
  apply b_ext
  intro i hi
  rw [b_or]
  simp [bt, nI, Int32.toBitVec_ofNat, BitVec.getLsbD_ofNat, hi]
theorem z_xor (a b : Nat) : nI a ^^^ nI b = nI (a ^^^ b) := nx_xor a b
theorem z_bt (a : Nat) {i : Nat} (hi : i < 32) : bt (nI a) i = a.testBit i := by
  show (BitVec.ofNat 32 a).getLsbD i = _
  rw [BitVec.getLsbD_ofNat]
  simp [hi]
theorem z_shl (a : Nat) {b : Nat} (hb : b < 32) : nI a <<< nI b = nI (a <<< b) := by
  apply b_ext
  intro i hi
  have h := b_shl b hb (nI a) hi
  rw [show nI b &&& 31 = nI b from z_31 hb] at h
  rw [h, z_bt _ hi, Nat.testBit_shiftLeft]
  by_cases hbi : b ≤ i
  · rw [show bt (nI a) (i - b) = a.testBit (i - b) from z_bt a (by omega)]
  · simp [hbi]
theorem z_shr {a b : Nat} (ha : a < 2147483648) (hb : b < 32) : nI a >>> nI b = nI (a >>> b) := by
  apply b_ext
  intro i hi
  have h := b_sshr b hb (nI a) hi
  rw [show nI b &&& 31 = nI b from z_31 hb] at h
  rw [h, z_bt _ hi, Nat.testBit_shiftRight]
  by_cases hbi : b + i < 32
  · rw [if_pos hbi, z_bt _ hbi]
  · rw [if_neg hbi, z_bt _ (by omega)]
    have e1 : a.testBit 31 = false := Nat.testBit_lt_two_pow (by omega)
    have e2 : a.testBit (b + i) = false := Nat.testBit_lt_two_pow (Nat.lt_of_lt_of_le ha (by
      have : 2 ^ 31 ≤ 2 ^ (b + i) := Nat.pow_le_pow_right (by omega) (by omega)
      omega))
    rw [e1, e2]
theorem z_ne {a : Nat} (ha : a < 2147483648) {k : Nat} (hk : 1 ≤ k ∧ k < 2147483648) : nI a ≠ -nI k := by
  intro h
  have h1 := congrArg Int32.toInt h
  rw [z_ti ha, Int32.toInt_neg, z_ti hk.2] at h1
  rw [fb_bmod (by omega) (by omega)] at h1
  omega
theorem z_nlt {a : Nat} (ha : a < 2147483648) {k : Nat} (hk : 1 ≤ k ∧ k < 2147483648) : ¬ nI a < -nI k := by
  rw [Int32.lt_iff_toInt_lt, z_ti ha, Int32.toInt_neg, z_ti hk.2, fb_bmod (by omega) (by omega)]
  omega
theorem z_neg {k : Nat} (hk : 1 ≤ k ∧ k < 2147483648) : (-nI k).toInt = -(k : Int) := by
  rw [Int32.toInt_neg, z_ti hk.2, fb_bmod (by omega) (by omega)]
-- reading, writing
theorem z_ld {f : Nat → Int32} {n k : Nat} (h : k < n) (hn : n < 2147483648) : ldI f n (nI k) = some (f k) := by
  have hk : k < 2147483648 := by omega
  simp only [ldI, inR, z_ti hk, z_cl hk]
  simp [h]
theorem z_st {σ : HS} {o n k : Nat} {x : Int32} (h : k < n) (hn : n < 2147483648) : stI σ o n (nI k) x = some (sI σ o k x) := by
  have hk : k < 2147483648 := by omega
  simp only [stI, inR, z_ti hk, z_cl hk]
  simp [h]
theorem z_ldJ {f : Nat → Int64} {n k : Nat} (h : k < n) (hn : n < 2147483648) : ldJ f n (nI k) = some (f k) := by
  have hk : k < 2147483648 := by omega
  simp only [ldJ, inR, z_ti hk, z_cl hk]
  simp [h]
theorem z_stJ {σ : HS} {o n k : Nat} {x : Int64} (h : k < n) (hn : n < 2147483648) : stJ σ o n (nI k) x = some (sL σ o k x) := by
  have hk : k < 2147483648 := by omega
  simp only [stJ, inR, z_ti hk, z_cl hk]
  simp [h]
theorem z_ldR {n k : Nat} (h : k < n) (hn : n < 2147483648) : ldR n (nI k) = some k := by
  have hk : k < 2147483648 := by omega
  simp only [ldR, inR, z_ti hk, z_cl hk]
  simp [h]
theorem z_dv {a b : Nat} (ha : a < 2147483648) (h0 : 0 < b) (hb : b < 2147483648) : dvI (nI a) (nI b) = some (nI (a / b)) := by
  rw [dvI, if_neg (by rw [show (0 : Int32) = nI 0 from rfl, z_eq hb (by omega)]; omega), pk_div ha h0 hb]
theorem z_rm {a b : Nat} (ha : a < 2147483648) (h0 : 0 < b) (hb : b < 2147483648) : rmI (nI a) (nI b) = some (nI (a % b)) := by
  rw [rmI, if_neg (by rw [show (0 : Int32) = nI 0 from rfl, z_eq hb (by omega)]; omega), pk_rem ha h0 hb]
theorem z_bz {a : Nat} (h : a = 0 ∨ a = 1) : bzI (nI a) = some (nI a) := by
  rcases h with rfl | rfl <;> rfl
theorem z_bi {α β : Type} (a : α) (f : α → Option β) : (some a).bind f = f a := rfl
theorem z_cp {σ : HS} {a n b m c : Nat} (h : c ≤ n) (h' : c ≤ m) (hc : c < 2147483648) : cpI σ a n b m (nI c) = some (sA σ b (va_cpy (σ.1 a) (σ.1 b) 0 0 c)) := by
  rw [cpI, if_pos, z_cl hc]
  refine ⟨?_, by rw [z_cl hc]; exact h, by rw [z_cl hc]; exact h'⟩
  rw [show (0 : Int32) = nI 0 from rfl, z_lt hc (by omega)]
  omega
theorem s_A1 (σ : HS) (o : Nat) (f : Nat → Int32) : (sA σ o f).1 o = f := by simp [sA]
theorem s_A2 (σ : HS) {o o' : Nat} (f : Nat → Int32) (h : o' ≠ o) : (sA σ o f).1 o' = σ.1 o' := by simp [sA, h]
theorem s_I1 (σ : HS) (o k : Nat) (x : Int32) : (sI σ o k x).1 o = upd (σ.1 o) k x := by simp [sI, sA]
theorem s_I2 (σ : HS) {o o' : Nat} (k : Nat) (x : Int32) (h : o' ≠ o) : (sI σ o k x).1 o' = σ.1 o' := by simp [sI, sA, h]
theorem s_II (σ : HS) (o : Nat) (f : Nat → Int32) (k : Nat) (x : Int32) : sI (sA σ o f) o k x = sA σ o (upd f k x) := by
  simp only [sI, sA]
  congr 1
  funext a
  by_cases h : a = o <;> simp [h]
theorem s_AA (σ : HS) (o : Nat) (f g : Nat → Int32) : sA (sA σ o f) o g = sA σ o g := by
  simp only [sA]
  congr 1
  funext a
  by_cases h : a = o <;> simp [h]
theorem s_AC (σ : HS) {o o' : Nat} (f g : Nat → Int32) (h : o ≠ o') : sA (sA σ o f) o' g = sA (sA σ o' g) o f := by
  simp only [sA]
  congr 1
  funext a
  by_cases h1 : a = o
  · by_cases h2 : a = o'
    · omega
    · simp [h1]
      intro e
      omega
  · by_cases h2 : a = o' <;> simp [h1, h2]
    intro e
    omega
theorem s_self (σ : HS) (o : Nat) : sA σ o (σ.1 o) = σ := by
  simp only [sA]
  congr 1
  funext a
  by_cases h : a = o <;> simp [h]
theorem u_1 (f : Nat → Int32) (k : Nat) (x : Int32) : upd f k x k = x := by simp [upd]
theorem u_2 (f : Nat → Int32) {k j : Nat} (x : Int32) (h : j ≠ k) : upd f k x j = f j := by simp [upd, h]
/-- all cells but some are the same -/
def fr (l : List Nat) (σ σ' : HS) : Prop := ∀ o, o ∉ l → σ'.1 o = σ.1 o
theorem fr.rf (l : List Nat) (σ : HS) : fr l σ σ := fun _ _ => rfl
theorem fr.tr {l : List Nat} {a b c : HS} (h1 : fr l a b) (h2 : fr l b c) : fr l a c := fun o h => (h2 o h).trans (h1 o h)
theorem fr.up {l l' : List Nat} {a b : HS} (h : fr l a b) (hl : ∀ o, o ∈ l → o ∈ l') : fr l' a b := fun o ho => h o (fun q => ho (hl o q))
theorem fr.sA {l : List Nat} {σ : HS} {o : Nat} {f : Nat → Int32} (h : o ∈ l) : fr l σ (sA σ o f) := fun q hq => s_A2 σ f (fun e => hq (by rw [e]; exact h))
theorem fr.sI {l : List Nat} {σ : HS} {o k : Nat} {x : Int32} (h : o ∈ l) : fr l σ (sI σ o k x) := fun q hq => s_I2 σ k x (fun e => hq (by rw [e]; exact h))
