theorem sp_feed {iv : mI} {ar : mA} {la : mL} {pA pB : mA} {iw : mI} {aw : mA} (hT : rlT iv ar iw aw) (a : Int32) : ∃ (r : Int32) (ivz : mI) (arz : mA) (iwz : mI) (awz : mA), mX11_feed a iv ar la pA pB = some (r, ivz, arz, la, pA, pB) ∧ mX12_feed a iw aw = some (r, iwz, awz) ∧ rlT ivz arz iwz awz ∧ (∀ k, k ≠ 801 → ivz k = iv k) ∧ (∀ k, k ≠ 800 → arz k = ar k) ∧ (∀ k, k ≠ 0 → iwz k = iw k) ∧ (∀ k, k ≠ 1 → awz k = aw k) := by
  obtain ⟨n, hn, h1, h2, h3⟩ := hT
  by_cases hf : n = 200
  · subst hf
    refine ⟨m3, iv, ar, iw, aw, ?_, ?_, ⟨200, hn, h1, h2, h3⟩, fun _ _ => rfl, fun _ _ => rfl, fun _ _ => rfl, fun _ _ => rfl⟩
    · simp (disch := omega) only [mX11_feed, mX8_append, h1, Nat.lt_irrefl, bitn, bitn0, bit1n, ↓e_m1, ↓e_m2, ↓e_m3, ↓e_m11, ↓e_m12, ↓e_m13, ↓e_m14, ↓e_m15, ↓e_m16, nlit, nle, nlt, neq, ncl, nadd, nmul, obe, obce, upr, aur, m1ne, m1ne2, m1lt, m1le, m1nle, m1nlt, if_pos, if_neg, false_or, or_false, or_self, true_or, or_true, if_true, if_false, ite_true, ite_false, reduceIte, reduceCtorEq, Nat.not_lt_zero, Nat.zero_le, Option.some.injEq, Prod.mk.injEq]
    · simp (disch := omega) only [mX12_feed, h2, bitn, bitn0, bit1n, ↓e_m1, ↓e_m2, ↓e_m3, ↓e_m11, ↓e_m12, ↓e_m13, ↓e_m14, ↓e_m15, ↓e_m16, nlit, nle, nlt, neq, ncl, nadd, nmul, obe, obce, upr, aur, m1ne, m1ne2, m1lt, m1le, m1nle, m1nlt, if_pos, if_neg, false_or, or_false, or_self, true_or, or_true, if_true, if_false, ite_true, ite_false, reduceIte, reduceCtorEq, Nat.not_lt_zero, Nat.zero_le, Option.some.injEq, Prod.mk.injEq]
  · refine ⟨nI (n + 1), va_up iv 801 (nI (n + 1)), au ar 800 n a, va_up iw 0 (nI (n + 1)), au aw 1 n a, ?_, ?_, ⟨n + 1, by omega, rfl, rfl, ?_⟩, ?_, ?_, ?_, ?_⟩
    · simp (disch := omega) only [mX11_feed, mX8_append, h1, bitn, bitn0, bit1n, ↓e_m1, ↓e_m2, ↓e_m3, ↓e_m11, ↓e_m12, ↓e_m13, ↓e_m14, ↓e_m15, ↓e_m16, nlit, nle, nlt, neq, ncl, nadd, nmul, obe, obce, upr, aur, m1ne, m1ne2, m1lt, m1le, m1nle, m1nlt, if_pos, if_neg, false_or, or_false, or_self, true_or, or_true, if_true, if_false, ite_true, ite_false, reduceIte, reduceCtorEq, Nat.not_lt_zero, Nat.zero_le, Option.some.injEq, Prod.mk.injEq]
    · simp (disch := omega) only [mX12_feed, h2, bitn, bitn0, bit1n, ↓e_m1, ↓e_m2, ↓e_m3, ↓e_m11, ↓e_m12, ↓e_m13, ↓e_m14, ↓e_m15, ↓e_m16, nlit, nle, nlt, neq, ncl, nadd, nmul, obe, obce, upr, aur, m1ne, m1ne2, m1lt, m1le, m1nle, m1nlt, if_pos, if_neg, false_or, or_false, or_self, true_or, or_true, if_true, if_false, ite_true, ite_false, reduceIte, reduceCtorEq, Nat.not_lt_zero, Nat.zero_le, Option.some.injEq, Prod.mk.injEq]
    · intro j hj
      rw [aur, aur, if_pos rfl, if_pos rfl]
      by_cases e : j = n
      · rw [if_pos e, if_pos e]
      · rw [if_neg e, if_neg e]
        exact h3 j (by omega)
    · intro k hk; exact va_up_ne _ _ hk
    · intro k hk; exact va_up_ne _ _ hk
    · intro k hk; exact va_up_ne _ _ hk
    · intro k hk; exact va_up_ne _ _ hk
theorem sp_place {iv : mI} {ar : mA} {la : mL} {pA pB : mA} {iw : mI} {aw : mA} (h : iv 1111 = iw 2) : mX11_place iv ar la pA pB = some (iw 2, iv, ar, la, pA, pB) ∧ mX12_place iw aw = some (iw 2, iw, aw) := by
  refine ⟨?_, ?_⟩
  · simp only [mX11_place, h]
  · simp only [mX12_place]
theorem sp_count {iv : mI} {ar : mA} {la : mL} {pA pB : mA} {iw : mI} {aw : mA} (h0 : iv 303 = iw 3) (h1 : iv 801 = iw 0) (h2 : iv 1005 = iw 56) (h3 : iv 408 = iw 57) (h4 : (iv 1110 = 0 ∧ iw 30 = 0) ∨ (iv 1110 = 1 ∧ iw 30 = 1)) (a : Int32) : ∃ r, mX11_count a iv ar la pA pB = some (r, iv, ar, la, pA, pB) ∧ mX12_count a iw aw = some (r, iw, aw) := by
  unfold mX11_count mX12_count
  by_cases e0 : a = 0
  · exact ⟨_, by simp only [e0, if_true, mX3_size, obce]; rfl, by simp only [e0, if_true, h0]⟩
  by_cases e1 : a = 1
  · exact ⟨_, by simp only [e0, e1, if_true, if_false, mX8_size, obce]; rfl, by simp only [e0, e1, if_true, if_false, h1]; rfl⟩
  by_cases e2 : a = 2
  · exact ⟨_, by simp only [e0, e1, e2, if_true, if_false, mX4_values, mX10_size, obce]; rfl, by simp only [e0, e1, e2, if_true, if_false, h2]; rfl⟩
  by_cases e3 : a = 3
  · exact ⟨_, by simp only [e0, e1, e2, e3, if_true, if_false, mX4_steps, obce]; rfl, by simp only [e0, e1, e2, e3, if_true, if_false, h3]; rfl⟩
  by_cases e4 : a = 4
  · rcases h4 with ⟨h4, h5⟩ | ⟨h4, h5⟩
    · exact ⟨0, by simp only [e0, e1, e2, e3, e4, if_true, if_false, h4]; rfl, by simp only [e0, e1, e2, e3, e4, if_true, if_false, h5]; rfl⟩
    · exact ⟨1, by simp only [e0, e1, e2, e3, e4, if_true, if_false, h4]; rfl, by simp only [e0, e1, e2, e3, e4, if_true, if_false, h5]; rfl⟩
  · exact ⟨_, by simp only [e0, e1, e2, e3, e4, if_false]; rfl, by simp only [e0, e1, e2, e3, e4, if_false]⟩
theorem sp_clear {iv : mI} {ar : mA} {la : mL} {pA pB : mA} {iw : mI} {aw : mA} {g : Nat} (hg : g ≤ 200) (h0 : iv 303 = nI g) (h1 : iw 3 = nI g) : ∃ (ivz : mI) (iwz : mI), mX11_clear iv ar la pA pB = some (nI g, ivz, ar, la, pA, pB) ∧ mX12_clear iw aw = some (nI g, iwz, aw) ∧ ivz 303 = 0 ∧ iwz 3 = 0 ∧ ivz 1110 = 0 ∧ iwz 30 = 0 ∧ ivz 1005 = 0 ∧ iwz 56 = 0 ∧ ivz 408 = 0 ∧ iwz 57 = 0 ∧ (∀ k, k ≠ 303 → k ≠ 1110 → k ≠ 1005 → k ≠ 408 → k ≠ 102 → k ≠ 407 → ivz k = iv k) ∧ (∀ k, k ≠ 3 → k ≠ 30 → k ≠ 56 → k ≠ 57 → iwz k = iw k) := by
  refine ⟨va_up (va_up (va_up (va_up (va_up (if g = 0 then iv else va_up iv 303 0) 1110 0) 1005 0) 102 0) 407 0) 408 0, va_up (va_up (va_up (va_up iw 3 0) 30 0) 56 0) 57 0, ?_, ?_, ?_⟩
  · by_cases e : g = 0
    · subst e
      simp (disch := omega) only [mX11_clear, mX3_size, mX3_cutTo, mX4_forget, mX10_empty, mX1_empty, h0, bitn, bitn0, bit1n, ↓e_m1, ↓e_m2, ↓e_m3, ↓e_m11, ↓e_m12, ↓e_m13, ↓e_m14, ↓e_m15, ↓e_m16, nlit, nle, nlt, neq, ncl, nadd, nmul, obe, obce, upr, aur, m1ne, m1ne2, m1lt, m1le, m1nle, m1nlt, if_pos, if_neg, false_or, or_false, or_self, true_or, or_true, if_true, if_false, ite_true, ite_false, reduceIte, reduceCtorEq, Nat.not_lt_zero, Nat.zero_le, Option.some.injEq, Prod.mk.injEq]
    · simp (disch := omega) only [mX11_clear, mX3_size, mX3_cutTo, mX4_forget, mX10_empty, mX1_empty, h0, bitn, bitn0, bit1n, ↓e_m1, ↓e_m2, ↓e_m3, ↓e_m11, ↓e_m12, ↓e_m13, ↓e_m14, ↓e_m15, ↓e_m16, nlit, nle, nlt, neq, ncl, nadd, nmul, obe, obce, upr, aur, m1ne, m1ne2, m1lt, m1le, m1nle, m1nlt, if_pos, if_neg, false_or, or_false, or_self, true_or, or_true, if_true, if_false, ite_true, ite_false, reduceIte, reduceCtorEq, Nat.not_lt_zero, Nat.zero_le, Option.some.injEq, Prod.mk.injEq]
  · simp (disch := omega) only [mX12_clear, h1, bitn, bitn0, bit1n, ↓e_m1, ↓e_m2, ↓e_m3, ↓e_m11, ↓e_m12, ↓e_m13, ↓e_m14, ↓e_m15, ↓e_m16, nlit, nle, nlt, neq, ncl, nadd, nmul, obe, obce, upr, aur, m1ne, m1ne2, m1lt, m1le, m1nle, m1nlt, if_pos, if_neg, false_or, or_false, or_self, true_or, or_true, if_true, if_false, ite_true, ite_false, reduceIte, reduceCtorEq, Nat.not_lt_zero, Nat.zero_le, Option.some.injEq, Prod.mk.injEq]
  · refine ⟨?_, rfl, rfl, rfl, rfl, rfl, rfl, rfl, ?_, ?_⟩
    · by_cases e : g = 0
      · simp only [upr, e, if_true]; simp [h0, e, nI]
      · simp only [upr, e, if_false]; simp
    · intro k a b c d e f
      by_cases eg : g = 0 <;> simp [upr, eg, a, b, c, d, e, f]
    · intro k a b c d
      simp [upr, a, b, c, d]
theorem sub2 {a : Int32} (h : ¬ a < 0) (h0 : ¬ a = 0) (h1 : ¬ a = 1) : ∃ j : Nat, j < 2147483646 ∧ a = nI (j + 2) ∧ a - 2 = nI j := by
  obtain ⟨j, hj, rfl⟩ := nI_of h
  have e0 : j ≠ 0 := fun e => h0 (by subst e; rfl)
  have e1 : j ≠ 1 := fun e => h1 (by subst e; rfl)
  refine ⟨j - 2, by omega, by rw [show j - 2 + 2 = j by omega], ?_⟩
  rw [show (2 : Int32) = nI 2 from rfl, nsub (by omega)]
theorem c_partOf {g : Nat} {kd lb : Nat → Nat} {pt : Nat → Nat → Nat} {iv : mI} {ar : mA} {la : mL} {pA pB : mA} (hg : g ≤ 400) (hb : ∀ k, k < g → lb k < 256) (h : cG g kd lb pt iv ar) {k l : Nat} (hk : k < g) (hl : l < 2147483648) : mX3_partOf (nI k) (nI l) iv ar la pA pB = some (if l < 8 ∧ (lb k).testBit l = true then nI (pt k l) else m1, iv, ar, la, pA, pB) := by
  obtain ⟨h1, h2⟩ := h
  obtain ⟨-, h4, h5⟩ := h2 k hk
  have hb := hb k hk
  by_cases h8 : l < 8
  · by_cases ht : (lb k).testBit l = true
    · have h6 := h5 l h8 ht
      simp (disch := omega) only [mX3_partOf, mX3_partOf_J27, h1, h4, ht, h6, h8, and_self, bitn, bitn0, bit1n, ↓e_m1, ↓e_m2, ↓e_m3, ↓e_m11, ↓e_m12, ↓e_m13, ↓e_m14, ↓e_m15, ↓e_m16, nlit, nle, nlt, neq, ncl, nadd, nmul, obe, obce, upr, aur, m1ne, m1ne2, m1lt, m1le, m1nle, m1nlt, if_pos, if_neg, false_or, or_false, or_self, true_or, or_true, if_true, if_false, ite_true, ite_false, reduceIte, reduceCtorEq, Nat.not_lt_zero, Nat.zero_le, Option.some.injEq, Prod.mk.injEq]
    · simp (disch := omega) only [mX3_partOf, mX3_partOf_J27, h1, h4, ht, h8, and_false, Bool.false_eq_true, bitn, bitn0, bit1n, ↓e_m1, ↓e_m2, ↓e_m3, ↓e_m11, ↓e_m12, ↓e_m13, ↓e_m14, ↓e_m15, ↓e_m16, nlit, nle, nlt, neq, ncl, nadd, nmul, obe, obce, upr, aur, m1ne, m1ne2, m1lt, m1le, m1nle, m1nlt, if_pos, if_neg, false_or, or_false, or_self, true_or, or_true, if_true, if_false, ite_true, ite_false, reduceIte, reduceCtorEq, Nat.not_lt_zero, Nat.zero_le, Option.some.injEq, Prod.mk.injEq]
  · simp (disch := omega) only [mX3_partOf, mX3_partOf_J27, h1, h8, false_and, bitn, bitn0, bit1n, ↓e_m1, ↓e_m2, ↓e_m3, ↓e_m11, ↓e_m12, ↓e_m13, ↓e_m14, ↓e_m15, ↓e_m16, nlit, nle, nlt, neq, ncl, nadd, nmul, obe, obce, upr, aur, m1ne, m1ne2, m1lt, m1le, m1nle, m1nlt, if_pos, if_neg, false_or, or_false, or_self, true_or, or_true, if_true, if_false, ite_true, ite_false, reduceIte, reduceCtorEq, Nat.not_lt_zero, Nat.zero_le, Option.some.injEq, Prod.mk.injEq]
theorem sp_node {g : Nat} {kd lb : Nat → Nat} {pt : Nat → Nat → Nat} {iv : mI} {ar : mA} {la : mL} {pA pB : mA} {iw : mI} {aw : mA} (hg : g ≤ 200) (hG : Gr g kd lb pt) (hc : cG g kd lb pt iv ar) (hr : rG g kd lb pt iw aw) (a b : Int32) : ∃ r, mX11_node a b iv ar la pA pB = some (r, iv, ar, la, pA, pB) ∧ mX12_node a b iw aw = some (r, iw, aw) := by
  by_cases hb : b < 0
  · have hb2 : ¬ 0 ≤ b := by
      rw [Int32.le_iff_toInt_le]; rw [Int32.lt_iff_toInt_lt] at hb; omega
    exact ⟨m2, by simp only [mX11_node, hb2, if_false]; rfl, by simp only [mX12_node, hb2, if_false]; rfl⟩
  · have hb2 : 0 ≤ b := by
      rw [Int32.le_iff_toInt_le]; rw [Int32.lt_iff_toInt_lt] at hb; omega
    rcases c_has (ar := ar) (la := la) (pA := pA) (pB := pB) (a := a) hc.1 (by omega) with ⟨j, hj, rfl, h1⟩ | ⟨hn, h1⟩
    · rcases r_isNode (aw := aw) (a := nI j) hr.1 (by omega) with ⟨j2, hj2, e2, h2⟩ | ⟨hn2, h2⟩
      · obtain ⟨c1, c2, c3⟩ := hc.2 j hj
        obtain ⟨r1, r2, r3⟩ := hr.2 j hj
        obtain ⟨-, hlb, -⟩ := hG j hj
        unfold mX11_node mX12_node
        rw [if_pos hb2, if_pos hb2, h1, h2]
        simp only [obce, obe]
        by_cases e0 : b = 0
        · exact ⟨nI (kd j), by simp (disch := omega) only [e0, mX3_kindOf, hc.1, c1, bitn, bitn0, bit1n, ↓e_m1, ↓e_m2, ↓e_m3, ↓e_m11, ↓e_m12, ↓e_m13, ↓e_m14, ↓e_m15, ↓e_m16, nlit, nle, nlt, neq, ncl, nadd, nmul, obe, obce, upr, aur, m1ne, m1ne2, m1lt, m1le, m1nle, m1nlt, if_pos, if_neg, false_or, or_false, or_self, true_or, or_true, if_true, if_false, ite_true, ite_false, reduceIte, reduceCtorEq, Nat.not_lt_zero, Nat.zero_le, Option.some.injEq, Prod.mk.injEq], by simp (disch := omega) only [e0, r1, bitn, bitn0, bit1n, ↓e_m1, ↓e_m2, ↓e_m3, ↓e_m11, ↓e_m12, ↓e_m13, ↓e_m14, ↓e_m15, ↓e_m16, nlit, nle, nlt, neq, ncl, nadd, nmul, obe, obce, upr, aur, m1ne, m1ne2, m1lt, m1le, m1nle, m1nlt, if_pos, if_neg, false_or, or_false, or_self, true_or, or_true, if_true, if_false, ite_true, ite_false, reduceIte, reduceCtorEq, Nat.not_lt_zero, Nat.zero_le, Option.some.injEq, Prod.mk.injEq]⟩
        by_cases e1 : b = 1
        · exact ⟨nI (lb j), by simp (disch := omega) only [e0, e1, mX3_labelsOf, hc.1, c2, bitn, bitn0, bit1n, ↓e_m1, ↓e_m2, ↓e_m3, ↓e_m11, ↓e_m12, ↓e_m13, ↓e_m14, ↓e_m15, ↓e_m16, nlit, nle, nlt, neq, ncl, nadd, nmul, obe, obce, upr, aur, m1ne, m1ne2, m1lt, m1le, m1nle, m1nlt, if_pos, if_neg, false_or, or_false, or_self, true_or, or_true, if_true, if_false, ite_true, ite_false, reduceIte, reduceCtorEq, Nat.not_lt_zero, Nat.zero_le, Option.some.injEq, Prod.mk.injEq], by simp (disch := omega) only [e0, e1, r2, bitn, bitn0, bit1n, ↓e_m1, ↓e_m2, ↓e_m3, ↓e_m11, ↓e_m12, ↓e_m13, ↓e_m14, ↓e_m15, ↓e_m16, nlit, nle, nlt, neq, ncl, nadd, nmul, obe, obce, upr, aur, m1ne, m1ne2, m1lt, m1le, m1nle, m1nlt, if_pos, if_neg, false_or, or_false, or_self, true_or, or_true, if_true, if_false, ite_true, ite_false, reduceIte, reduceCtorEq, Nat.not_lt_zero, Nat.zero_le, Option.some.injEq, Prod.mk.injEq]⟩
        obtain ⟨i, hi, -, hbi⟩ := sub2 hb e0 e1
        rw [hbi]
        simp only [e0, e1, if_false]
        rw [c_partOf (by omega) (fun k hk => (hG k hk).2.1) hc hj (by omega)]
        refine ⟨if i < 8 ∧ (lb j).testBit i = true then nI (pt j i) else m1, by simp [obce], ?_⟩
        by_cases h8 : i < 8
        · by_cases ht : (lb j).testBit i = true
          · have h6 := r3 i h8 ht
            simp (disch := omega) only [r2, ht, h8, mX12_part, h6, and_self, bitn, bitn0, bit1n, ↓e_m1, ↓e_m2, ↓e_m3, ↓e_m11, ↓e_m12, ↓e_m13, ↓e_m14, ↓e_m15, ↓e_m16, nlit, nle, nlt, neq, ncl, nadd, nmul, obe, obce, upr, aur, m1ne, m1ne2, m1lt, m1le, m1nle, m1nlt, if_pos, if_neg, false_or, or_false, or_self, true_or, or_true, if_true, if_false, ite_true, ite_false, reduceIte, reduceCtorEq, Nat.not_lt_zero, Nat.zero_le, Option.some.injEq, Prod.mk.injEq]
          · simp (disch := omega) only [r2, ht, h8, and_false, Bool.false_eq_true, bitn, bitn0, bit1n, ↓e_m1, ↓e_m2, ↓e_m3, ↓e_m11, ↓e_m12, ↓e_m13, ↓e_m14, ↓e_m15, ↓e_m16, nlit, nle, nlt, neq, ncl, nadd, nmul, obe, obce, upr, aur, m1ne, m1ne2, m1lt, m1le, m1nle, m1nlt, if_pos, if_neg, false_or, or_false, or_self, true_or, or_true, if_true, if_false, ite_true, ite_false, reduceIte, reduceCtorEq, Nat.not_lt_zero, Nat.zero_le, Option.some.injEq, Prod.mk.injEq]
        · simp (disch := omega) only [h8, false_and, bitn, bitn0, bit1n, ↓e_m1, ↓e_m2, ↓e_m3, ↓e_m11, ↓e_m12, ↓e_m13, ↓e_m14, ↓e_m15, ↓e_m16, nlit, nle, nlt, neq, ncl, nadd, nmul, obe, obce, upr, aur, m1ne, m1ne2, m1lt, m1le, m1nle, m1nlt, if_pos, if_neg, false_or, or_false, or_self, true_or, or_true, if_true, if_false, ite_true, ite_false, reduceIte, reduceCtorEq, Nat.not_lt_zero, Nat.zero_le, Option.some.injEq, Prod.mk.injEq]
      · exact absurd rfl (hn2 j hj)
    · rcases r_isNode (aw := aw) (a := a) hr.1 (by omega) with ⟨j2, hj2, e2, h2⟩ | ⟨hn2, h2⟩
      · exact absurd e2 (hn j2 hj2)
      · exact ⟨m1, by simp only [mX11_node, hb2, if_true, h1, obce]; rfl, by simp only [mX12_node, hb2, if_true, h2, obe]; rfl⟩
theorem c_vpart {n : Nat} {iv : mI} {ar : mA} {la : mL} {pA pB : mA} (hn : n ≤ 2000) (h : iv 1005 = nI n) {k l : Nat} (hk : k < n) (hl : l < 2147483648) : mX10_partOf (nI k) (nI l) iv ar la pA pB = some (if l < 8 ∧ ((ar 1000 k = nI 5 ∧ ((ar 1001 k >>> (nI l &&& nI 31)) &&& nI 1) = nI 1) ∨ (ar 1000 k = nI 6 ∧ ar 1001 k = nI l)) then ar 1002 (k * 8 + l) else m1, iv, ar, la, pA, pB) := by
  by_cases h8 : l < 8
  · simp (disch := omega) only [mX10_partOf, mX10_has, h, h8, true_and, mX10_partOf_J49, mX10_partOf_J76, mX10_partOf_J87, bitn, bitn0, bit1n, ↓e_m1, ↓e_m2, ↓e_m3, ↓e_m11, ↓e_m12, ↓e_m13, ↓e_m14, ↓e_m15, ↓e_m16, nlit, nle, nlt, neq, ncl, nadd, nmul, obe, obce, upr, aur, m1ne, m1ne2, m1lt, m1le, m1nle, m1nlt, if_pos, if_neg, false_or, or_false, or_self, true_or, or_true, if_true, if_false, ite_true, ite_false, reduceIte, reduceCtorEq, Nat.not_lt_zero, Nat.zero_le, Option.some.injEq, Prod.mk.injEq]
    by_cases e5 : ar 1000 k = nI 5
    · have e6 : ¬ ar 1000 k = nI 6 := by rw [e5]; simp (disch := omega) only [bitn, bitn0, bit1n, ↓e_m1, ↓e_m2, ↓e_m3, ↓e_m11, ↓e_m12, ↓e_m13, ↓e_m14, ↓e_m15, ↓e_m16, nlit, nle, nlt, neq, ncl, nadd, nmul, obe, obce, upr, aur, m1ne, m1ne2, m1lt, m1le, m1nle, m1nlt, if_pos, if_neg, false_or, or_false, or_self, true_or, or_true, if_true, if_false, ite_true, ite_false, reduceIte, reduceCtorEq, Nat.not_lt_zero, Nat.zero_le, Option.some.injEq, Prod.mk.injEq]; omega
      by_cases eb : ((ar 1001 k >>> (nI l &&& nI 31)) &&& nI 1) = nI 1
      · simp (disch := omega) only [e5, eb, and_self, false_and, bitn, bitn0, bit1n, ↓e_m1, ↓e_m2, ↓e_m3, ↓e_m11, ↓e_m12, ↓e_m13, ↓e_m14, ↓e_m15, ↓e_m16, nlit, nle, nlt, neq, ncl, nadd, nmul, obe, obce, upr, aur, m1ne, m1ne2, m1lt, m1le, m1nle, m1nlt, if_pos, if_neg, false_or, or_false, or_self, true_or, or_true, if_true, if_false, ite_true, ite_false, reduceIte, reduceCtorEq, Nat.not_lt_zero, Nat.zero_le, Option.some.injEq, Prod.mk.injEq]
      · simp (disch := omega) only [e5, eb, and_self, false_and, and_false, bitn, bitn0, bit1n, ↓e_m1, ↓e_m2, ↓e_m3, ↓e_m11, ↓e_m12, ↓e_m13, ↓e_m14, ↓e_m15, ↓e_m16, nlit, nle, nlt, neq, ncl, nadd, nmul, obe, obce, upr, aur, m1ne, m1ne2, m1lt, m1le, m1nle, m1nlt, if_pos, if_neg, false_or, or_false, or_self, true_or, or_true, if_true, if_false, ite_true, ite_false, reduceIte, reduceCtorEq, Nat.not_lt_zero, Nat.zero_le, Option.some.injEq, Prod.mk.injEq]
    · by_cases e6 : ar 1000 k = nI 6
      · by_cases eb : ar 1001 k = nI l
        · simp (disch := omega) only [e5, e6, eb, and_self, false_and, and_false, bitn, bitn0, bit1n, ↓e_m1, ↓e_m2, ↓e_m3, ↓e_m11, ↓e_m12, ↓e_m13, ↓e_m14, ↓e_m15, ↓e_m16, nlit, nle, nlt, neq, ncl, nadd, nmul, obe, obce, upr, aur, m1ne, m1ne2, m1lt, m1le, m1nle, m1nlt, if_pos, if_neg, false_or, or_false, or_self, true_or, or_true, if_true, if_false, ite_true, ite_false, reduceIte, reduceCtorEq, Nat.not_lt_zero, Nat.zero_le, Option.some.injEq, Prod.mk.injEq]
        · simp (disch := omega) only [e5, e6, eb, and_self, false_and, and_false, bitn, bitn0, bit1n, ↓e_m1, ↓e_m2, ↓e_m3, ↓e_m11, ↓e_m12, ↓e_m13, ↓e_m14, ↓e_m15, ↓e_m16, nlit, nle, nlt, neq, ncl, nadd, nmul, obe, obce, upr, aur, m1ne, m1ne2, m1lt, m1le, m1nle, m1nlt, if_pos, if_neg, false_or, or_false, or_self, true_or, or_true, if_true, if_false, ite_true, ite_false, reduceIte, reduceCtorEq, Nat.not_lt_zero, Nat.zero_le, Option.some.injEq, Prod.mk.injEq]
      · simp (disch := omega) only [e5, e6, and_self, false_and, and_false, bitn, bitn0, bit1n, ↓e_m1, ↓e_m2, ↓e_m3, ↓e_m11, ↓e_m12, ↓e_m13, ↓e_m14, ↓e_m15, ↓e_m16, nlit, nle, nlt, neq, ncl, nadd, nmul, obe, obce, upr, aur, m1ne, m1ne2, m1lt, m1le, m1nle, m1nlt, if_pos, if_neg, false_or, or_false, or_self, true_or, or_true, if_true, if_false, ite_true, ite_false, reduceIte, reduceCtorEq, Nat.not_lt_zero, Nat.zero_le, Option.some.injEq, Prod.mk.injEq]
  · simp (disch := omega) only [mX10_partOf, mX10_has, h, h8, false_and, bitn, bitn0, bit1n, ↓e_m1, ↓e_m2, ↓e_m3, ↓e_m11, ↓e_m12, ↓e_m13, ↓e_m14, ↓e_m15, ↓e_m16, nlit, nle, nlt, neq, ncl, nadd, nmul, obe, obce, upr, aur, m1ne, m1ne2, m1lt, m1le, m1nle, m1nlt, if_pos, if_neg, false_or, or_false, or_self, true_or, or_true, if_true, if_false, ite_true, ite_false, reduceIte, reduceCtorEq, Nat.not_lt_zero, Nat.zero_le, Option.some.injEq, Prod.mk.injEq]
theorem sp_value {iv : mI} {ar : mA} {la : mL} {pA pB : mA} {iw : mI} {aw : mA} (hV : rlV iv ar iw aw) (a b : Int32) : ∃ r, mX11_value a b iv ar la pA pB = some (r, iv, ar, la, pA, pB) ∧ mX12_value a b iw aw = some (r, iw, aw) := by
  obtain ⟨n, hn, v1, v2, -, v4⟩ := hV
  by_cases hb : b < 0
  · have hb2 : ¬ 0 ≤ b := by
      rw [Int32.le_iff_toInt_le]; rw [Int32.lt_iff_toInt_lt] at hb; omega
    exact ⟨m2, by simp only [mX11_value, hb2, if_false]; rfl, by simp only [mX12_value, hb2, if_false]; rfl⟩
  · have hb2 : 0 ≤ b := by
      rw [Int32.le_iff_toInt_le]; rw [Int32.lt_iff_toInt_lt] at hb; omega
    rcases c_vhas (ar := ar) (la := la) (pA := pA) (pB := pB) (a := a) v1 hn with ⟨j, hj, rfl, h1⟩ | ⟨hn1, h1⟩
    · rcases r_in (iw := iw) (aw := aw) (a := nI j) (n := n) (by omega) with ⟨j2, hj2, e2, h2⟩ | ⟨hn2, h2⟩
      · obtain ⟨c1, c2, c3⟩ := v4 j hj
        unfold mX11_value mX12_value
        rw [if_pos hb2, if_pos hb2, v2, h2]
        simp only [mX4_values, obce, obe, h1]
        by_cases e0 : b = 0
        · exact ⟨ar 1000 j, by simp (disch := omega) only [e0, mX10_kindOf, h1, bitn, bitn0, bit1n, ↓e_m1, ↓e_m2, ↓e_m3, ↓e_m11, ↓e_m12, ↓e_m13, ↓e_m14, ↓e_m15, ↓e_m16, nlit, nle, nlt, neq, ncl, nadd, nmul, obe, obce, upr, aur, m1ne, m1ne2, m1lt, m1le, m1nle, m1nlt, if_pos, if_neg, false_or, or_false, or_self, true_or, or_true, if_true, if_false, ite_true, ite_false, reduceIte, reduceCtorEq, Nat.not_lt_zero, Nat.zero_le, Option.some.injEq, Prod.mk.injEq], by simp (disch := omega) only [e0, c1, bitn, bitn0, bit1n, ↓e_m1, ↓e_m2, ↓e_m3, ↓e_m11, ↓e_m12, ↓e_m13, ↓e_m14, ↓e_m15, ↓e_m16, nlit, nle, nlt, neq, ncl, nadd, nmul, obe, obce, upr, aur, m1ne, m1ne2, m1lt, m1le, m1nle, m1nlt, if_pos, if_neg, false_or, or_false, or_self, true_or, or_true, if_true, if_false, ite_true, ite_false, reduceIte, reduceCtorEq, Nat.not_lt_zero, Nat.zero_le, Option.some.injEq, Prod.mk.injEq]⟩
        by_cases e1 : b = 1
        · exact ⟨ar 1001 j, by simp (disch := omega) only [e0, e1, mX10_numberOf, h1, bitn, bitn0, bit1n, ↓e_m1, ↓e_m2, ↓e_m3, ↓e_m11, ↓e_m12, ↓e_m13, ↓e_m14, ↓e_m15, ↓e_m16, nlit, nle, nlt, neq, ncl, nadd, nmul, obe, obce, upr, aur, m1ne, m1ne2, m1lt, m1le, m1nle, m1nlt, if_pos, if_neg, false_or, or_false, or_self, true_or, or_true, if_true, if_false, ite_true, ite_false, reduceIte, reduceCtorEq, Nat.not_lt_zero, Nat.zero_le, Option.some.injEq, Prod.mk.injEq], by simp (disch := omega) only [e0, e1, c2, bitn, bitn0, bit1n, ↓e_m1, ↓e_m2, ↓e_m3, ↓e_m11, ↓e_m12, ↓e_m13, ↓e_m14, ↓e_m15, ↓e_m16, nlit, nle, nlt, neq, ncl, nadd, nmul, obe, obce, upr, aur, m1ne, m1ne2, m1lt, m1le, m1nle, m1nlt, if_pos, if_neg, false_or, or_false, or_self, true_or, or_true, if_true, if_false, ite_true, ite_false, reduceIte, reduceCtorEq, Nat.not_lt_zero, Nat.zero_le, Option.some.injEq, Prod.mk.injEq]⟩
        obtain ⟨i, hi, hbi2, hbi⟩ := sub2 hb e0 e1
        rw [hbi]
        simp only [e0, e1, if_false]
        rw [c_vpart hn v1 hj (by omega)]
        refine ⟨_, by simp [obce]; rfl, ?_⟩
        by_cases h8 : i < 8
        · simp (disch := omega) only [hbi2, nsub, bitn, bitn0, bit1n, ↓e_m1, ↓e_m2, ↓e_m3, ↓e_m11, ↓e_m12, ↓e_m13, ↓e_m14, ↓e_m15, ↓e_m16, nlit, nle, nlt, neq, ncl, nadd, nmul, obe, obce, upr, aur, m1ne, m1ne2, m1lt, m1le, m1nle, m1nlt, if_pos, if_neg, false_or, or_false, or_self, true_or, or_true, if_true, if_false, ite_true, ite_false, reduceIte, reduceCtorEq, Nat.not_lt_zero, Nat.zero_le, Option.some.injEq, Prod.mk.injEq]
          rw [show 8 * j + (i + 2) - 2 = 8 * j + i by omega, c3 i h8]
          simp (disch := omega) only [h8, true_and, bitn, bitn0, bit1n, ↓e_m1, ↓e_m2, ↓e_m3, ↓e_m11, ↓e_m12, ↓e_m13, ↓e_m14, ↓e_m15, ↓e_m16, nlit, nle, nlt, neq, ncl, nadd, nmul, obe, obce, upr, aur, m1ne, m1ne2, m1lt, m1le, m1nle, m1nlt, if_pos, if_neg, false_or, or_false, or_self, true_or, or_true, if_true, if_false, ite_true, ite_false, reduceIte, reduceCtorEq, Nat.not_lt_zero, Nat.zero_le, Option.some.injEq, Prod.mk.injEq]
        · simp (disch := omega) only [h8, false_and, bitn, bitn0, bit1n, ↓e_m1, ↓e_m2, ↓e_m3, ↓e_m11, ↓e_m12, ↓e_m13, ↓e_m14, ↓e_m15, ↓e_m16, nlit, nle, nlt, neq, ncl, nadd, nmul, obe, obce, upr, aur, m1ne, m1ne2, m1lt, m1le, m1nle, m1nlt, if_pos, if_neg, false_or, or_false, or_self, true_or, or_true, if_true, if_false, ite_true, ite_false, reduceIte, reduceCtorEq, Nat.not_lt_zero, Nat.zero_le, Option.some.injEq, Prod.mk.injEq]
      · exact absurd rfl (hn2 j hj)
    · rcases r_in (iw := iw) (aw := aw) (a := a) (n := n) (by omega) with ⟨j2, hj2, e2, h2⟩ | ⟨hn2, h2⟩
      · exact absurd e2 (hn1 j2 hj2)
      · exact ⟨m1, by simp only [mX11_value, hb2, if_true, mX4_values, h1, obce]; rfl, by simp only [mX12_value, hb2, if_true, v2, h2, obe]; rfl⟩
