/-- a graph of g nodes: kinds, labels as bits, parts -/
def Gr (g : Nat) (kd lb : Nat → Nat) (pt : Nat → Nat → Nat) : Prop := ∀ k, k < g → kd k ≤ 6 ∧ lb k < 256 ∧ (kd k < 4 → lb k = 0) ∧ (kd k = 4 → lb k = 3) ∧ ∀ l, l < 8 → (lb k).testBit l = true → pt k l < g
/-- the class holds that graph; the reference does -/
def cG (g : Nat) (kd lb : Nat → Nat) (pt : Nat → Nat → Nat) (iv : mI) (ar : mA) : Prop := iv 303 = nI g ∧ ∀ k, k < g → ar 300 k = nI (kd k) ∧ ar 301 k = nI (lb k) ∧ ∀ l, l < 8 → (lb k).testBit l = true → ar 302 (k * 8 + l) = nI (pt k l)
def rG (g : Nat) (kd lb : Nat → Nat) (pt : Nat → Nat → Nat) (iw : mI) (aw : mA) : Prop := iw 3 = nI g ∧ ∀ k, k < g → aw 4 k = nI (kd k) ∧ aw 5 k = nI (lb k) ∧ ∀ l, l < 8 → (lb k).testBit l = true → aw 6 (8 * k + l) = nI (pt k l)
def rlG (iv : mI) (ar : mA) (iw : mI) (aw : mA) : Prop := ∃ (g : Nat) (kd lb : Nat → Nat) (pt : Nat → Nat → Nat), g ≤ 200 ∧ Gr g kd lb pt ∧ cG g kd lb pt iv ar ∧ rG g kd lb pt iw aw
/-- the text -/
def rlT (iv : mI) (ar : mA) (iw : mI) (aw : mA) : Prop := ∃ n : Nat, n ≤ 200 ∧ iv 801 = nI n ∧ iw 0 = nI n ∧ ∀ j, j < n → ar 800 j = aw 1 j
/-- the values of the latest run -/
def rlV (iv : mI) (ar : mA) (iw : mI) (aw : mA) : Prop := ∃ n : Nat, n ≤ 2000 ∧ iv 1005 = nI n ∧ iw 56 = nI n ∧ iv 408 = iw 57 ∧ ∀ k, k < n → ar 1000 k = aw 58 k ∧ ar 1001 k = aw 59 k ∧ ∀ l, l < 8 → aw 60 (8 * k + l) = if (ar 1000 k = nI 5 ∧ ((ar 1001 k >>> (nI l &&& nI 31)) &&& nI 1) = nI 1) ∨ (ar 1000 k = nI 6 ∧ ar 1001 k = nI l) then ar 1002 (k * 8 + l) else m1
theorem c_has {g : Nat} {iv : mI} (h : iv 303 = nI g) (hg : g ≤ 400) {a : Int32} {ar : mA} {la : mL} {pA pB : mA} : (∃ j, j < g ∧ a = nI j ∧ mX3_has a iv ar la pA pB = some (1, iv, ar, la, pA, pB)) ∨ ((∀ j, j < g → a ≠ nI j) ∧ mX3_has a iv ar la pA pB = some (0, iv, ar, la, pA, pB)) := by
  rcases pk_ix a (n := g) (by omega) with h1 | h1 | ⟨j, hj, rfl⟩
  · refine Or.inr ⟨fun j hj e => ?_, by simp only [mX3_has, h1, if_true]⟩
    subst e
    exact nI_pos (by omega) h1
  · refine Or.inr ⟨fun j hj e => ?_, ?_⟩
    · subst e
      exact nI_ge hj (by omega) h1
    · have h0 : ¬ a < 0 := by
        intro h2
        rw [Int32.lt_iff_toInt_lt] at h2
        rw [Int32.le_iff_toInt_le, nI_toInt (by omega)] at h1
        have : (0 : Int32).toInt = 0 := by decide
        omega
      simp only [mX3_has, h, h0, h1, if_true, if_false]
  · refine Or.inl ⟨j, hj, rfl, ?_⟩
    simp (disch := omega) only [mX3_has, h, bitn, bitn0, bit1n, ↓e_m1, ↓e_m2, ↓e_m3, ↓e_m11, ↓e_m12, ↓e_m13, ↓e_m14, ↓e_m15, ↓e_m16, nlit, nle, nlt, neq, ncl, nadd, nmul, obe, obce, upr, aur, m1ne, m1ne2, m1lt, m1le, m1nle, m1nlt, if_pos, if_neg, false_or, or_false, or_self, true_or, or_true, if_true, if_false, ite_true, ite_false, reduceIte, reduceCtorEq, Nat.not_lt_zero, Nat.zero_le, Option.some.injEq, Prod.mk.injEq]
theorem r_isNode {g : Nat} {iw : mI} (h : iw 3 = nI g) (hg : g ≤ 400) {a : Int32} {aw : mA} : (∃ j, j < g ∧ a = nI j ∧ mX12_isNode a iw aw = some (1, iw, aw)) ∨ ((∀ j, j < g → a ≠ nI j) ∧ mX12_isNode a iw aw = some (0, iw, aw)) := by
  have hs : (nI g - 1).toInt = (g : Int) - 1 := by
    rw [show (1 : Int32) = nI 1 from rfl]
    exact pk_sub_toInt (by omega) (by decide)
  rcases pk_ix a (n := g) (by omega) with h1 | h1 | ⟨j, hj, rfl⟩
  · refine Or.inr ⟨fun j hj e => ?_, by simp only [mX12_isNode, mX12_in, h1, if_true, ob]; simp⟩
    subst e
    exact nI_pos (by omega) h1
  · refine Or.inr ⟨fun j hj e => ?_, ?_⟩
    · subst e
      exact nI_ge hj (by omega) h1
    · have h2 : nI g - 1 < a := by
        rw [Int32.lt_iff_toInt_lt, hs]
        rw [Int32.le_iff_toInt_le, nI_toInt (by omega)] at h1
        omega
      simp only [mX12_isNode, mX12_in, h, h2, if_true, ob]
      by_cases h3 : a < 0 <;> simp [h3]
  · refine Or.inl ⟨j, hj, rfl, ?_⟩
    have h2 : ¬ nI g - 1 < nI j := by
      rw [Int32.lt_iff_toInt_lt, hs, nI_toInt (by omega)]
      omega
    simp only [mX12_isNode, mX12_in, h, h2, if_false, ob, n0 (show j < 2147483648 by omega)]
    simp
theorem r_in {n : Nat} (hn : n ≤ 100000) {a : Int32} {iw : mI} {aw : mA} : (∃ j, j < n ∧ a = nI j ∧ mX12_in a 0 (nI n - 1) iw aw = some (1, iw, aw)) ∨ ((∀ j, j < n → a ≠ nI j) ∧ mX12_in a 0 (nI n - 1) iw aw = some (0, iw, aw)) := by
  have hs : (nI n - 1).toInt = (n : Int) - 1 := by
    rw [show (1 : Int32) = nI 1 from rfl]
    exact pk_sub_toInt (by omega) (by decide)
  rcases pk_ix a (n := n) (by omega) with h1 | h1 | ⟨j, hj, rfl⟩
  · refine Or.inr ⟨fun j hj e => ?_, by simp only [mX12_in, h1, if_true]⟩
    subst e
    exact nI_pos (by omega) h1
  · refine Or.inr ⟨fun j hj e => ?_, ?_⟩
    · subst e
      exact nI_ge hj (by omega) h1
    · have h2 : nI n - 1 < a := by
        rw [Int32.lt_iff_toInt_lt, hs]
        rw [Int32.le_iff_toInt_le, nI_toInt (by omega)] at h1
        omega
      simp only [mX12_in, h2, if_true]
      by_cases h3 : a < 0 <;> simp [h3]
  · refine Or.inl ⟨j, hj, rfl, ?_⟩
    have h2 : ¬ nI n - 1 < nI j := by
      rw [Int32.lt_iff_toInt_lt, hs, nI_toInt (by omega)]
      omega
    simp only [mX12_in, h2, if_false, n0 (show j < 2147483648 by omega)]
theorem c_vhas {n : Nat} {iv : mI} (h : iv 1005 = nI n) (hn : n ≤ 2000) {a : Int32} {ar : mA} {la : mL} {pA pB : mA} : (∃ j, j < n ∧ a = nI j ∧ mX10_has a iv ar la pA pB = some (1, iv, ar, la, pA, pB)) ∨ ((∀ j, j < n → a ≠ nI j) ∧ mX10_has a iv ar la pA pB = some (0, iv, ar, la, pA, pB)) := by
  rcases pk_ix a (n := n) (by omega) with h1 | h1 | ⟨j, hj, rfl⟩
  · refine Or.inr ⟨fun j hj e => ?_, by simp only [mX10_has, h1, if_true]⟩
    subst e
    exact nI_pos (by omega) h1
  · refine Or.inr ⟨fun j hj e => ?_, ?_⟩
    · subst e
      exact nI_ge hj (by omega) h1
    · have h0 : ¬ a < 0 := by
        intro h2
        rw [Int32.lt_iff_toInt_lt] at h2
        rw [Int32.le_iff_toInt_le, nI_toInt (by omega)] at h1
        have : (0 : Int32).toInt = 0 := by decide
        omega
      simp only [mX10_has, h, h0, h1, if_true, if_false]
  · refine Or.inl ⟨j, hj, rfl, ?_⟩
    simp (disch := omega) only [mX10_has, h, bitn, bitn0, bit1n, ↓e_m1, ↓e_m2, ↓e_m3, ↓e_m11, ↓e_m12, ↓e_m13, ↓e_m14, ↓e_m15, ↓e_m16, nlit, nle, nlt, neq, ncl, nadd, nmul, obe, obce, upr, aur, m1ne, m1ne2, m1lt, m1le, m1nle, m1nlt, if_pos, if_neg, false_or, or_false, or_self, true_or, or_true, if_true, if_false, ite_true, ite_false, reduceIte, reduceCtorEq, Nat.not_lt_zero, Nat.zero_le, Option.some.injEq, Prod.mk.injEq]
