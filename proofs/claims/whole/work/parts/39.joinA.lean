-- the joining of two nodes: keys
def jk (h a b : Nat) : Nat := h * 65536 + a * 256 + b
theorem nor32 {a b : Nat} (ha : a < 2147483648) (hb : b < 2147483648) : nI a ||| nI b = nI (a ||| b) := by
  apply Int32.toBitVec_inj.mp
  apply BitVec.eq_of_toNat_eq
  have h : a ||| b < 2 ^ 31 := Nat.or_lt_two_pow ha hb
  rw [Int32.toBitVec_or, BitVec.toNat_or, pk_tn (by omega), pk_tn (by omega), pk_tn (by omega)]
theorem jk_eq {h a b : Nat} (hh : h < 2) (ha : a < 256) (hb : b < 256) : ((nI h <<< ((16 : Int32) &&& 31)) ||| (nI a <<< ((8 : Int32) &&& 31))) ||| nI b = nI (jk h a b) := by
  rw [pk_shlN _ 16 (by decide) (by omega), pk_shlN _ 8 (by decide) (by omega), nor32 (by omega) (by omega)]
  have e1 : h * 2 ^ 16 ||| a * 2 ^ 8 = h * 2 ^ 16 + a * 2 ^ 8 := by
    rw [Nat.mul_comm h, ← Nat.two_pow_add_eq_or_of_lt (i := 16) (by omega) h]
  rw [e1, nor32 (by omega) (by omega)]
  have e2 : h * 2 ^ 16 + a * 2 ^ 8 ||| b = h * 2 ^ 16 + a * 2 ^ 8 + b := by
    rw [show h * 2 ^ 16 + a * 2 ^ 8 = 2 ^ 8 * (h * 256 + a) by omega, ← Nat.two_pow_add_eq_or_of_lt (i := 8) (by omega) (h * 256 + a)]
  rw [e2]
  rfl
theorem jk_h {h a b : Nat} (hh : h < 2) (ha : a < 256) (hb : b < 256) : nI (jk h a b) >>> ((16 : Int32) &&& 31) = nI h := by
  rw [pk_shrN (by unfold jk; omega) _ 16 (by decide)]
  congr 1
  unfold jk
  omega
theorem jk_a {h a b : Nat} (hh : h < 2) (ha : a < 256) (hb : b < 256) : (nI (jk h a b) >>> ((8 : Int32) &&& 31)) &&& 255 = nI a := by
  rw [pk_shrN (by unfold jk; omega) _ 8 (by decide), pk_andN (by unfold jk; omega) 8 (by decide)]
  congr 1
  unfold jk
  omega
theorem jk_b {h a b : Nat} (hh : h < 2) (ha : a < 256) (hb : b < 256) : nI (jk h a b) &&& 255 = nI b := by
  rw [pk_andN (by unfold jk; omega) 8 (by decide)]
  congr 1
  unfold jk
  omega
theorem jk_inj {h a b h2 a2 b2 : Nat} (ha : a < 256) (hb : b < 256) (ha2 : a2 < 256) (hb2 : b2 < 256) (e : jk h a b = jk h2 a2 b2) : h = h2 ∧ a = a2 ∧ b = b2 := by
  unfold jk at e
  omega
/-- two nodes that need none: h is 0 for UNITED, 1 for MET -/
def jsim (kd : Nat → Nat) (h a b : Nat) : Option Nat :=
  if a = b then some a else if kd a = 1 - h then some b else if kd b = 1 - h then some a else if kd a = h then some a else if kd b = h then some b else if kd a = kd b ∧ (kd a = 2 ∨ kd a = 3) then some a else none
def jkind (kd : Nat → Nat) (h a b : Nat) : Nat := if kd a = kd b then kd a else h
theorem r_simple {f : Nat} {kd : Nat → Nat} {iw : mI} {aw : mA} (hf : f ≤ 200) (hk : ∀ k, k < f → aw 4 k = nI (kd k)) (hk6 : ∀ k, k < f → kd k ≤ 6) {h a b : Nat} (hh : h < 2) (ha : a < f) (hb : b < f) : mX12_simple (nI h) (nI a) (nI b) iw aw = some (match jsim kd h a b with | some r => nI r | none => m1, iw, aw) := by
  have ka := hk6 a ha
  have kb := hk6 b hb
  have e0 : h = 0 ∨ h = 1 := by omega
  unfold jsim
  rcases e0 with rfl | rfl
  · by_cases q1 : a = b
    · subst q1; simp (disch := omega) only [mX12_simple, mX12_simple_J9, mX12_simple_J20, bitn, bitn0, bit1n, ↓e_m1, ↓e_m2, ↓e_m3, ↓e_m11, ↓e_m12, ↓e_m13, ↓e_m14, ↓e_m15, ↓e_m16, nlit, nle, nlt, neq, ncl, nadd, nmul, obe, obce, upr, aur, m1ne, m1ne2, m1lt, m1le, m1nle, m1nlt, if_pos, if_neg, false_or, or_false, or_self, true_or, or_true, if_true, if_false, ite_true, ite_false, reduceIte, reduceCtorEq, Nat.not_lt_zero, Nat.zero_le, Option.some.injEq, Prod.mk.injEq]
    by_cases q2 : kd a = 1
    · simp (disch := omega) only [mX12_simple, mX12_simple_J9, mX12_simple_J20, hk a ha, hk b hb, q1, q2, bitn, bitn0, bit1n, ↓e_m1, ↓e_m2, ↓e_m3, ↓e_m11, ↓e_m12, ↓e_m13, ↓e_m14, ↓e_m15, ↓e_m16, nlit, nle, nlt, neq, ncl, nadd, nmul, obe, obce, upr, aur, m1ne, m1ne2, m1lt, m1le, m1nle, m1nlt, if_pos, if_neg, false_or, or_false, or_self, true_or, or_true, if_true, if_false, ite_true, ite_false, reduceIte, reduceCtorEq, Nat.not_lt_zero, Nat.zero_le, Option.some.injEq, Prod.mk.injEq]
    by_cases q3 : kd b = 1
    · simp (disch := omega) only [mX12_simple, mX12_simple_J9, mX12_simple_J20, hk a ha, hk b hb, q1, q2, q3, bitn, bitn0, bit1n, ↓e_m1, ↓e_m2, ↓e_m3, ↓e_m11, ↓e_m12, ↓e_m13, ↓e_m14, ↓e_m15, ↓e_m16, nlit, nle, nlt, neq, ncl, nadd, nmul, obe, obce, upr, aur, m1ne, m1ne2, m1lt, m1le, m1nle, m1nlt, if_pos, if_neg, false_or, or_false, or_self, true_or, or_true, if_true, if_false, ite_true, ite_false, reduceIte, reduceCtorEq, Nat.not_lt_zero, Nat.zero_le, Option.some.injEq, Prod.mk.injEq]
    by_cases q4 : kd a = 0
    · simp (disch := omega) only [mX12_simple, mX12_simple_J9, mX12_simple_J20, hk a ha, hk b hb, q1, q2, q3, q4, bitn, bitn0, bit1n, ↓e_m1, ↓e_m2, ↓e_m3, ↓e_m11, ↓e_m12, ↓e_m13, ↓e_m14, ↓e_m15, ↓e_m16, nlit, nle, nlt, neq, ncl, nadd, nmul, obe, obce, upr, aur, m1ne, m1ne2, m1lt, m1le, m1nle, m1nlt, if_pos, if_neg, false_or, or_false, or_self, true_or, or_true, if_true, if_false, ite_true, ite_false, reduceIte, reduceCtorEq, Nat.not_lt_zero, Nat.zero_le, Option.some.injEq, Prod.mk.injEq]
    by_cases q5 : kd b = 0
    · simp (disch := omega) only [mX12_simple, mX12_simple_J9, mX12_simple_J20, hk a ha, hk b hb, q1, q2, q3, q4, q5, bitn, bitn0, bit1n, ↓e_m1, ↓e_m2, ↓e_m3, ↓e_m11, ↓e_m12, ↓e_m13, ↓e_m14, ↓e_m15, ↓e_m16, nlit, nle, nlt, neq, ncl, nadd, nmul, obe, obce, upr, aur, m1ne, m1ne2, m1lt, m1le, m1nle, m1nlt, if_pos, if_neg, false_or, or_false, or_self, true_or, or_true, if_true, if_false, ite_true, ite_false, reduceIte, reduceCtorEq, Nat.not_lt_zero, Nat.zero_le, Option.some.injEq, Prod.mk.injEq]
    by_cases q6 : kd a = kd b
    · by_cases q7 : kd a = 2
      · simp (disch := omega) only [mX12_simple, mX12_simple_J9, mX12_simple_J20, hk a ha, hk b hb, q1, ← q6, q7, and_self, bitn, bitn0, bit1n, ↓e_m1, ↓e_m2, ↓e_m3, ↓e_m11, ↓e_m12, ↓e_m13, ↓e_m14, ↓e_m15, ↓e_m16, nlit, nle, nlt, neq, ncl, nadd, nmul, obe, obce, upr, aur, m1ne, m1ne2, m1lt, m1le, m1nle, m1nlt, if_pos, if_neg, false_or, or_false, or_self, true_or, or_true, if_true, if_false, ite_true, ite_false, reduceIte, reduceCtorEq, Nat.not_lt_zero, Nat.zero_le, Option.some.injEq, Prod.mk.injEq]
      · by_cases q8 : kd a = 3
        · simp (disch := omega) only [mX12_simple, mX12_simple_J9, mX12_simple_J20, hk a ha, hk b hb, q1, ← q6, q8, and_self, bitn, bitn0, bit1n, ↓e_m1, ↓e_m2, ↓e_m3, ↓e_m11, ↓e_m12, ↓e_m13, ↓e_m14, ↓e_m15, ↓e_m16, nlit, nle, nlt, neq, ncl, nadd, nmul, obe, obce, upr, aur, m1ne, m1ne2, m1lt, m1le, m1nle, m1nlt, if_pos, if_neg, false_or, or_false, or_self, true_or, or_true, if_true, if_false, ite_true, ite_false, reduceIte, reduceCtorEq, Nat.not_lt_zero, Nat.zero_le, Option.some.injEq, Prod.mk.injEq]
        · simp (disch := omega) only [mX12_simple, mX12_simple_J9, mX12_simple_J20, hk a ha, hk b hb, q1, q2, q4, ← q6, q7, q8, and_false, bitn, bitn0, bit1n, ↓e_m1, ↓e_m2, ↓e_m3, ↓e_m11, ↓e_m12, ↓e_m13, ↓e_m14, ↓e_m15, ↓e_m16, nlit, nle, nlt, neq, ncl, nadd, nmul, obe, obce, upr, aur, m1ne, m1ne2, m1lt, m1le, m1nle, m1nlt, if_pos, if_neg, false_or, or_false, or_self, true_or, or_true, if_true, if_false, ite_true, ite_false, reduceIte, reduceCtorEq, Nat.not_lt_zero, Nat.zero_le, Option.some.injEq, Prod.mk.injEq]
    · simp (disch := omega) only [mX12_simple, mX12_simple_J9, mX12_simple_J20, hk a ha, hk b hb, q1, q2, q3, q4, q5, q6, false_and, bitn, bitn0, bit1n, ↓e_m1, ↓e_m2, ↓e_m3, ↓e_m11, ↓e_m12, ↓e_m13, ↓e_m14, ↓e_m15, ↓e_m16, nlit, nle, nlt, neq, ncl, nadd, nmul, obe, obce, upr, aur, m1ne, m1ne2, m1lt, m1le, m1nle, m1nlt, if_pos, if_neg, false_or, or_false, or_self, true_or, or_true, if_true, if_false, ite_true, ite_false, reduceIte, reduceCtorEq, Nat.not_lt_zero, Nat.zero_le, Option.some.injEq, Prod.mk.injEq]
  · by_cases q1 : a = b
    · subst q1; simp (disch := omega) only [mX12_simple, mX12_simple_J9, mX12_simple_J20, bitn, bitn0, bit1n, ↓e_m1, ↓e_m2, ↓e_m3, ↓e_m11, ↓e_m12, ↓e_m13, ↓e_m14, ↓e_m15, ↓e_m16, nlit, nle, nlt, neq, ncl, nadd, nmul, obe, obce, upr, aur, m1ne, m1ne2, m1lt, m1le, m1nle, m1nlt, if_pos, if_neg, false_or, or_false, or_self, true_or, or_true, if_true, if_false, ite_true, ite_false, reduceIte, reduceCtorEq, Nat.not_lt_zero, Nat.zero_le, Option.some.injEq, Prod.mk.injEq]
    by_cases q2 : kd a = 0
    · simp (disch := omega) only [mX12_simple, mX12_simple_J9, mX12_simple_J20, hk a ha, hk b hb, q1, q2, bitn, bitn0, bit1n, ↓e_m1, ↓e_m2, ↓e_m3, ↓e_m11, ↓e_m12, ↓e_m13, ↓e_m14, ↓e_m15, ↓e_m16, nlit, nle, nlt, neq, ncl, nadd, nmul, obe, obce, upr, aur, m1ne, m1ne2, m1lt, m1le, m1nle, m1nlt, if_pos, if_neg, false_or, or_false, or_self, true_or, or_true, if_true, if_false, ite_true, ite_false, reduceIte, reduceCtorEq, Nat.not_lt_zero, Nat.zero_le, Option.some.injEq, Prod.mk.injEq]
    by_cases q3 : kd b = 0
    · simp (disch := omega) only [mX12_simple, mX12_simple_J9, mX12_simple_J20, hk a ha, hk b hb, q1, q2, q3, bitn, bitn0, bit1n, ↓e_m1, ↓e_m2, ↓e_m3, ↓e_m11, ↓e_m12, ↓e_m13, ↓e_m14, ↓e_m15, ↓e_m16, nlit, nle, nlt, neq, ncl, nadd, nmul, obe, obce, upr, aur, m1ne, m1ne2, m1lt, m1le, m1nle, m1nlt, if_pos, if_neg, false_or, or_false, or_self, true_or, or_true, if_true, if_false, ite_true, ite_false, reduceIte, reduceCtorEq, Nat.not_lt_zero, Nat.zero_le, Option.some.injEq, Prod.mk.injEq]
    by_cases q4 : kd a = 1
    · simp (disch := omega) only [mX12_simple, mX12_simple_J9, mX12_simple_J20, hk a ha, hk b hb, q1, q2, q3, q4, bitn, bitn0, bit1n, ↓e_m1, ↓e_m2, ↓e_m3, ↓e_m11, ↓e_m12, ↓e_m13, ↓e_m14, ↓e_m15, ↓e_m16, nlit, nle, nlt, neq, ncl, nadd, nmul, obe, obce, upr, aur, m1ne, m1ne2, m1lt, m1le, m1nle, m1nlt, if_pos, if_neg, false_or, or_false, or_self, true_or, or_true, if_true, if_false, ite_true, ite_false, reduceIte, reduceCtorEq, Nat.not_lt_zero, Nat.zero_le, Option.some.injEq, Prod.mk.injEq]
    by_cases q5 : kd b = 1
    · simp (disch := omega) only [mX12_simple, mX12_simple_J9, mX12_simple_J20, hk a ha, hk b hb, q1, q2, q3, q4, q5, bitn, bitn0, bit1n, ↓e_m1, ↓e_m2, ↓e_m3, ↓e_m11, ↓e_m12, ↓e_m13, ↓e_m14, ↓e_m15, ↓e_m16, nlit, nle, nlt, neq, ncl, nadd, nmul, obe, obce, upr, aur, m1ne, m1ne2, m1lt, m1le, m1nle, m1nlt, if_pos, if_neg, false_or, or_false, or_self, true_or, or_true, if_true, if_false, ite_true, ite_false, reduceIte, reduceCtorEq, Nat.not_lt_zero, Nat.zero_le, Option.some.injEq, Prod.mk.injEq]
    by_cases q6 : kd a = kd b
    · by_cases q7 : kd a = 2
      · simp (disch := omega) only [mX12_simple, mX12_simple_J9, mX12_simple_J20, hk a ha, hk b hb, q1, ← q6, q7, and_self, bitn, bitn0, bit1n, ↓e_m1, ↓e_m2, ↓e_m3, ↓e_m11, ↓e_m12, ↓e_m13, ↓e_m14, ↓e_m15, ↓e_m16, nlit, nle, nlt, neq, ncl, nadd, nmul, obe, obce, upr, aur, m1ne, m1ne2, m1lt, m1le, m1nle, m1nlt, if_pos, if_neg, false_or, or_false, or_self, true_or, or_true, if_true, if_false, ite_true, ite_false, reduceIte, reduceCtorEq, Nat.not_lt_zero, Nat.zero_le, Option.some.injEq, Prod.mk.injEq]
      · by_cases q8 : kd a = 3
        · simp (disch := omega) only [mX12_simple, mX12_simple_J9, mX12_simple_J20, hk a ha, hk b hb, q1, ← q6, q8, and_self, bitn, bitn0, bit1n, ↓e_m1, ↓e_m2, ↓e_m3, ↓e_m11, ↓e_m12, ↓e_m13, ↓e_m14, ↓e_m15, ↓e_m16, nlit, nle, nlt, neq, ncl, nadd, nmul, obe, obce, upr, aur, m1ne, m1ne2, m1lt, m1le, m1nle, m1nlt, if_pos, if_neg, false_or, or_false, or_self, true_or, or_true, if_true, if_false, ite_true, ite_false, reduceIte, reduceCtorEq, Nat.not_lt_zero, Nat.zero_le, Option.some.injEq, Prod.mk.injEq]
        · simp (disch := omega) only [mX12_simple, mX12_simple_J9, mX12_simple_J20, hk a ha, hk b hb, q1, q2, q4, ← q6, q7, q8, and_false, bitn, bitn0, bit1n, ↓e_m1, ↓e_m2, ↓e_m3, ↓e_m11, ↓e_m12, ↓e_m13, ↓e_m14, ↓e_m15, ↓e_m16, nlit, nle, nlt, neq, ncl, nadd, nmul, obe, obce, upr, aur, m1ne, m1ne2, m1lt, m1le, m1nle, m1nlt, if_pos, if_neg, false_or, or_false, or_self, true_or, or_true, if_true, if_false, ite_true, ite_false, reduceIte, reduceCtorEq, Nat.not_lt_zero, Nat.zero_le, Option.some.injEq, Prod.mk.injEq]
    · simp (disch := omega) only [mX12_simple, mX12_simple_J9, mX12_simple_J20, hk a ha, hk b hb, q1, q2, q3, q4, q5, q6, false_and, bitn, bitn0, bit1n, ↓e_m1, ↓e_m2, ↓e_m3, ↓e_m11, ↓e_m12, ↓e_m13, ↓e_m14, ↓e_m15, ↓e_m16, nlit, nle, nlt, neq, ncl, nadd, nmul, obe, obce, upr, aur, m1ne, m1ne2, m1lt, m1le, m1nle, m1nlt, if_pos, if_neg, false_or, or_false, or_self, true_or, or_true, if_true, if_false, ite_true, ite_false, reduceIte, reduceCtorEq, Nat.not_lt_zero, Nat.zero_le, Option.some.injEq, Prod.mk.injEq]
