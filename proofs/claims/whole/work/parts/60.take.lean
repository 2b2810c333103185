/-- the text while it is read: n numbers, p of them read, no fault yet -/
def rd (n p : Nat) (iv : mI) (ar : mA) (iw : mI) (aw : mA) : Prop := n ≤ 200 ∧ p ≤ n ∧ iv 801 = nI n ∧ iw 0 = nI n ∧ iv 802 = nI p ∧ iw 23 = nI p ∧ iw 24 = 0 ∧ ∀ j, j < n → ar 800 j = aw 1 j
theorem take_both {n p : Nat} {iv : mI} {ar : mA} {iw : mI} {aw : mA} (h : rd n p iv ar iw aw) (lo hi : Int32) (la : mL) (pA pB : mA) :
    (∃ v : Int32, p < n ∧ v = ar 800 p ∧ lo ≤ v ∧ v ≤ hi ∧ mX8_take lo hi iv ar la pA pB = some (1, va_up (va_up iv 803 v) 802 (nI (p + 1)), ar, la, pA, pB) ∧ mX12_take lo hi iw aw = some (v, va_up iw 23 (nI (p + 1)), aw)) ∨
    (∃ c : Int32, (c = m11 ∨ c = m12) ∧ mX8_take lo hi iv ar la pA pB = some (0, va_up (va_up iv 804 c) 805 (nI p), ar, la, pA, pB) ∧ mX12_take lo hi iw aw = some (c, va_up (va_up iw 24 c) 2 (nI p), aw)) := by
  obtain ⟨hn, hp, h1, h2, h3, h4, h5, h6⟩ := h
  by_cases e : p = n
  · refine Or.inr ⟨m12, Or.inr rfl, ?_, ?_⟩
    · unfold mX8_take mX8_fail
      rw [h1, h3, e, if_neg (nI_nlt (Nat.le_refl n) (by omega))]
      rfl
    · unfold mX12_take mX12_fail
      rw [if_pos h5, h4, h2, e, if_pos rfl]
      rfl
  · have hx := h6 p (by omega)
    have c1 : mX8_take lo hi iv ar la pA pB = if (ar 800 p) < lo then some (0, va_up (va_up iv 804 m11) 805 (nI p), ar, la, pA, pB) else if (ar 800 p) ≤ hi then some (1, va_up (va_up iv 803 (ar 800 p)) 802 (nI (p + 1)), ar, la, pA, pB) else some (0, va_up (va_up iv 804 m11) 805 (nI p), ar, la, pA, pB) := by
      unfold mX8_take mX8_fail
      rw [h1, h3, if_pos (nI_lt (show p < n by omega) (by omega)), if_neg (nI_in (by omega) (by omega)), ncl (by omega)]
      have e8 : (va_up iv 803 (ar 800 p)) 802 + 1 = nI (p + 1) := by
        rw [va_up_ne _ _ (by decide), h3, show (1 : Int32) = nI 1 from rfl, nadd]
      rw [e8]
      rfl
    have c2 : mX12_take lo hi iw aw = if (aw 1 p) < lo then some (m11, va_up (va_up iw 24 m11) 2 (nI p), aw) else if hi < (aw 1 p) then some (m11, va_up (va_up iw 24 m11) 2 (nI p), aw) else some (aw 1 p, va_up iw 23 (nI (p + 1)), aw) := by
      have e9 : (va_up iw 23 (iw 23 + 1)) 23 - 1 = nI p := by
        rw [va_up_self, h4, show (1 : Int32) = nI 1 from rfl, nadd, nsub (by omega), Nat.add_sub_cancel]
      unfold mX12_take mX12_fail mX12_in
      rw [if_pos h5, h4, h2, if_neg (show ¬ nI p = nI n from fun q => e ((nI_eq (by omega) (by omega)).mp q)), if_neg (nI_in (by omega) (by omega)), ncl (by omega)]
      by_cases q1 : (aw 1 p) < lo
      · rw [if_pos q1, if_pos q1, obe, if_pos rfl, obe, h4]
        rfl
      · rw [if_neg q1, if_neg q1]
        by_cases q2 : hi < (aw 1 p)
        · rw [if_pos q2, if_pos q2, obe, if_pos rfl, obe, h4]
          rfl
        · rw [if_neg q2, if_neg q2, obe, if_neg (show ¬ (1 : Int32) = 0 by decide)]
          rw [e9, if_neg (nI_in (by omega) (by omega)), ncl (by omega), h4, show (1 : Int32) = nI 1 from rfl, nadd]
    rw [c1, c2, ← hx]
    by_cases q1 : (ar 800 p) < lo
    · exact Or.inr ⟨m11, Or.inl rfl, by rw [if_pos q1], by rw [if_pos q1]⟩
    · by_cases q2 : (ar 800 p) ≤ hi
      · refine Or.inl ⟨ar 800 p, by omega, rfl, Int32.not_lt.mp q1, q2, by rw [if_neg q1, if_pos q2], ?_⟩
        rw [if_neg q1, if_neg (Int32.not_lt.mpr q2)]
      · refine Or.inr ⟨m11, Or.inl rfl, by rw [if_neg q1, if_neg q2], ?_⟩
        rw [if_neg q1, if_pos (Int32.not_le.mp q2)]
theorem mc0 {c : Int32} (h : c = m11 ∨ c = m12) : ¬ c = 0 := by
  rcases h with rfl | rfl <;> decide
theorem mc8 {c : Int32} (h : c = m11 ∨ c = m12) : c < 0 := by
  rcases h with rfl | rfl <;> decide
/-- a number between two small ones is small -/
theorem nI_btw {v : Int32} {a b : Nat} (hb : b < 2147483648) (h1 : nI a ≤ v) (h2 : v ≤ nI b) (ha : a < 2147483648) : ∃ j : Nat, a ≤ j ∧ j ≤ b ∧ v = nI j := by
  rw [Int32.le_iff_toInt_le, nI_toInt ha] at h1
  rw [Int32.le_iff_toInt_le, nI_toInt hb] at h2
  obtain ⟨j, hj, rfl⟩ := nI_of (show ¬ v < 0 by
    rw [Int32.lt_iff_toInt_lt]
    have : (0 : Int32).toInt = 0 := by decide
    omega)
  rw [nI_toInt hj] at h1 h2
  exact ⟨j, by omega, by omega, rfl⟩
theorem nI_inn {a N : Nat} (h : a < N) (h2 : a < 2147483648) : ¬ (nI a < 0 ∨ N ≤ a) := fun e => by
  rcases e with e | e
  · exact nI_pos h2 e
  · omega
