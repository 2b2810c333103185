theorem c_partJ {n : Nat} {L : Nat} {T : Nat} {iv : mI} {ar : mA} {la : mL} {pA pB : mA} (hn : n ≤ 200) (h1 : iv 303 = nI n) {k l : Nat} (hb : L < 256) (hk : k < n) (hl : l < 8) (h4 : ar 301 k = nI L) (h5 : L.testBit l = true → ar 302 (k * 8 + l) = nI T) : mX3_partOf (nI k) (nI l) iv ar la pA pB = some (if L.testBit l = true then nI T else m1, iv, ar, la, pA, pB) := by
  by_cases ht : L.testBit l = true
  · have h6 := h5 ht
    simp (disch := omega) only [mX3_partOf, mX3_partOf_J27, h1, h4, ht, h6, bitn, bitn0, bit1n, ↓e_m1, ↓e_m2, ↓e_m3, ↓e_m11, ↓e_m12, ↓e_m13, ↓e_m14, ↓e_m15, ↓e_m16, nlit, nle, nlt, neq, ncl, nadd, nmul, obe, obce, upr, aur, m1ne, m1ne2, m1lt, m1le, m1nle, m1nlt, if_pos, if_neg, false_or, or_false, or_self, true_or, or_true, if_true, if_false, ite_true, ite_false, reduceIte, reduceCtorEq, Nat.not_lt_zero, Nat.zero_le, Option.some.injEq, Prod.mk.injEq]
  · simp (disch := omega) only [mX3_partOf, mX3_partOf_J27, h1, h4, ht, Bool.false_eq_true, bitn, bitn0, bit1n, ↓e_m1, ↓e_m2, ↓e_m3, ↓e_m11, ↓e_m12, ↓e_m13, ↓e_m14, ↓e_m15, ↓e_m16, nlit, nle, nlt, neq, ncl, nadd, nmul, obe, obce, upr, aur, m1ne, m1ne2, m1lt, m1le, m1nle, m1nlt, if_pos, if_neg, false_or, or_false, or_self, true_or, or_true, if_true, if_false, ite_true, ite_false, reduceIte, reduceCtorEq, Nat.not_lt_zero, Nat.zero_le, Option.some.injEq, Prod.mk.injEq]
theorem c_kindJ {n K : Nat} {iv : mI} {ar : mA} {la : mL} {pA pB : mA} (hn : n ≤ 200) (h1 : iv 303 = nI n) {k : Nat} (hk : k < n) (h4 : ar 300 k = nI K) : mX3_kindOf (nI k) iv ar la pA pB = some (nI K, iv, ar, la, pA, pB) := by
  simp (disch := omega) only [mX3_kindOf, h1, h4, bitn, bitn0, bit1n, ↓e_m1, ↓e_m2, ↓e_m3, ↓e_m11, ↓e_m12, ↓e_m13, ↓e_m14, ↓e_m15, ↓e_m16, nlit, nle, nlt, neq, ncl, nadd, nmul, obe, obce, upr, aur, m1ne, m1ne2, m1lt, m1le, m1nle, m1nlt, if_pos, if_neg, false_or, or_false, or_self, true_or, or_true, if_true, if_false, ite_true, ite_false, reduceIte, reduceCtorEq, Nat.not_lt_zero, Nat.zero_le, Option.some.injEq, Prod.mk.injEq]
theorem c_setJ {n : Nat} {iv : mI} {ar : mA} {la : mL} {pA pB : mA} (hn : n ≤ 200) (h1 : iv 303 = nI n) {k l L : Nat} {v : Int32} (hb : L < 256) (hk : k < n) (hl : l < 8) (h4 : ar 301 k = nI L) : mX3_setPart (nI k) (nI l) v iv ar la pA pB = some (0, iv, au (au ar 301 k (nI (L ||| 2 ^ l))) 302 (k * 8 + l) v, la, pA, pB) := by
  have h2 : 2 ^ l < 256 := Nat.pow_lt_pow_right (a := 2) (by omega) (show l < 8 by omega)
  simp (disch := omega) only [mX3_setPart, h1, h4, nor_, bitn, bitn0, bit1n, ↓e_m1, ↓e_m2, ↓e_m3, ↓e_m11, ↓e_m12, ↓e_m13, ↓e_m14, ↓e_m15, ↓e_m16, nlit, nle, nlt, neq, ncl, nadd, nmul, obe, obce, upr, aur, m1ne, m1ne2, m1lt, m1le, m1nle, m1nlt, if_pos, if_neg, false_or, or_false, or_self, true_or, or_true, if_true, if_false, ite_true, ite_false, reduceIte, reduceCtorEq, Nat.not_lt_zero, Nat.zero_le, Option.some.injEq, Prod.mk.injEq]
theorem c_keyJ {k : Nat} {iv : mI} {ar : mA} {la : mL} {pA pB : mA} (hk : k < 200) : mX0_keyOf (nI k) iv ar la pA pB = some (ar 1 k, iv, ar, la, pA, pB) := by
  unfold mX0_keyOf
  rw [if_neg (nI_pos (show k < 2147483648 by omega)), if_neg (show ¬ (200 : Int32) ≤ nI k from nI_ge hk (by decide)), if_neg (nI_in hk (by decide)), ncl (by omega)]
theorem c_how {n h a b K : Nat} {iv : mI} {ar : mA} {la : mL} {pA pB : mA} (hn : n ≤ 200) (h1 : iv 303 = nI n) {k l : Nat} (hk : k < n) (hl : l < 8) (hh : h < 2) (ha : a < 200) (hb : b < 200) (hK : K ≤ 6) (h4 : ar 300 k = nI K) (h5 : ar 1 k = nI (jk h a b)) : mX0_howOfPart (nI k) (nI l) iv ar la pA pB = some (nI (if K = 4 ∧ l = 0 then 1 - h else h), iv, ar, la, pA, pB) := by
  have e := jk_h hh (show a < 256 by omega) (show b < 256 by omega)
  unfold mX0_howOfPart
  rw [c_keyJ (show k < 200 by omega), obce, c_kindJ hn h1 hk h4, obce, h5, e]
  by_cases k4 : K = 4
  · subst k4
    rw [if_pos (show nI 4 = 4 from rfl)]
    by_cases l0 : l = 0
    · subst l0
      rw [if_pos (show nI 0 = 0 from rfl), if_pos ⟨rfl, rfl⟩]
      unfold mX0_howOfPart_J30
      rw [if_neg (by decide), show (1 : Int32) = nI 1 from rfl, nsub (by omega)]
    · rw [if_neg (show ¬ nI l = 0 by rw [nz, neq (by omega) (by omega)]; exact l0), if_neg (fun q => l0 q.2)]
      unfold mX0_howOfPart_J30
      rw [if_pos rfl]
  · rw [if_neg (show ¬ nI K = 4 by rw [n4, neq (by omega) (by omega)]; exact k4), if_neg (fun q => k4 q.1)]
    unfold mX0_howOfPart_J30
    rw [if_pos rfl]
theorem c_lone {n h a b K : Nat} {iv : mI} {ar : mA} {la : mL} {pA pB : mA} (hn : n ≤ 200) (h1 : iv 303 = nI n) {k : Nat} {x y : Int32} (hk : k < n) (hh : h < 2) (ha : a < 200) (hb : b < 200) (hK : K ≤ 6) (h4 : ar 300 k = nI K) (h5 : ar 1 k = nI (jk h a b)) : mX0_lonePart (nI k) x y iv ar la pA pB = some (if (h = 0 ↔ K = 6) then (if x = m1 then y else x) else m1, iv, ar, la, pA, pB) := by
  have e := jk_h hh (show a < 256 by omega) (show b < 256 by omega)
  unfold mX0_lonePart
  rw [c_keyJ (show k < 200 by omega), obce, h5, e]
  by_cases h0 : h = 0
  · subst h0
    rw [if_pos (show nI 0 = 0 from rfl)]
    unfold mX0_lonePart_J16
    rw [c_kindJ hn h1 hk h4, obce]
    by_cases k6 : K = 6
    · subst k6
      rw [if_pos (show nI 6 = 6 from rfl), if_pos (show (0 = 0 ↔ 6 = 6) by simp)]
      unfold mX0_lonePart_J36
      rw [if_pos rfl]
      by_cases q : x = m1
      · rw [if_pos (show x = -1 from q), if_pos q]
      · rw [if_neg (show ¬ x = -1 from q), if_neg q]
    · rw [if_neg (show ¬ nI K = 6 by rw [n6, neq (by omega) (by omega)]; exact k6), if_neg (show ¬ (0 = 0 ↔ K = 6) by simp [k6])]
      unfold mX0_lonePart_J36
      rw [if_neg (by decide)]
      rfl
  · have h1' : h = 1 := by omega
    subst h1'
    rw [if_neg (by decide)]
    unfold mX0_lonePart_J16
    rw [c_kindJ hn h1 hk h4, obce]
    by_cases k6 : K = 6
    · subst k6
      rw [if_pos (show nI 6 = 6 from rfl), if_neg (show ¬ (1 = 0 ↔ 6 = 6) by simp)]
      unfold mX0_lonePart_J36
      rw [if_neg (by decide)]
      rfl
    · rw [if_neg (show ¬ nI K = 6 by rw [n6, neq (by omega) (by omega)]; exact k6), if_pos (show (1 = 0 ↔ K = 6) by simp [k6])]
      unfold mX0_lonePart_J36
      rw [if_pos rfl]
      by_cases q : x = m1
      · rw [if_pos (show x = -1 from q), if_pos q]
      · rw [if_neg (show ¬ x = -1 from q), if_neg q]
/-- the labels up to the next one -/
theorem lab_up {L p : Nat} : L % 2 ^ (p + 1) = if L.testBit p = true then (L % 2 ^ p) ||| 2 ^ p else L % 2 ^ p := by
  apply Nat.eq_of_testBit_eq
  intro i
  rw [Nat.testBit_mod_two_pow]
  split
  · rename_i ht
    rw [Nat.testBit_or, Nat.testBit_mod_two_pow, Nat.testBit_two_pow]
    by_cases e : i = p
    · subst e; simp [ht]
    · by_cases e2 : i < p
      · simp [e2, show i < p + 1 by omega, Ne.symm e]
      · simp [e2, show ¬ i < p + 1 by omega, Ne.symm e]
  · rename_i ht
    rw [Nat.testBit_mod_two_pow]
    by_cases e : i = p
    · subst e; simp [ht]
    · by_cases e2 : i < p
      · simp [e2, show i < p + 1 by omega]
      · simp [e2, show ¬ i < p + 1 by omega]
