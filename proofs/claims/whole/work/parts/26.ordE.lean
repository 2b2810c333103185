def oD (m : Nat) (qa qb : Nat → Nat) : Prop := ∀ i j, i < m → j < m → qa i * 200 + qb i = qa j * 200 + qb j → i = j
theorem c_enter {m : Nat} {qa qb ql qf : Nat → Nat} {iv : mI} {la : mL} (hQ : oQ m qa qb ql qf iv la) (hS : oS m qa qb la) (hD : oD m qa qb) {ar : mA} {pA pB : mA} {a b l f : Nat} (ha : a < 200) (hb : b < 200) (hl : l < 8) (hf : f < 40000) :
    ((∃ e, e < m ∧ qa e = a ∧ qb e = b) ∧ mX5_enter (nI a) (nI b) (nI l) (nI f) iv ar la pA pB = some (0, iv, ar, la, pA, pB)) ∨
    ((∀ e, e < m → ¬ (qa e = a ∧ qb e = b)) ∧ ∃ la2, mX5_enter (nI a) (nI b) (nI l) (nI f) iv ar la pA pB = some (0, va_up iv 503 (nI (m + 1)), ar, la2, pA, pB) ∧ (∀ k, k ≠ 501 → k ≠ 502 → la2 k = la k) ∧ oQ (m + 1) (va_up qa m a) (va_up qb m b) (va_up ql m l) (va_up qf m f) (va_up iv 503 (nI (m + 1))) la2 ∧ oS (m + 1) (va_up qa m a) (va_up qb m b) la2 ∧ oD (m + 1) (va_up qa m a) (va_up qb m b)) := by
  obtain ⟨hm, h503, hE⟩ := hQ
  have hp : a * 200 + b < 40000 := by omega
  have hw : (a * 200 + b) / 64 < 625 := by omega
  have hj : (a * 200 + b) % 64 < 64 := Nat.mod_lt _ (by decide)
  have hix : (nI a * 200 + nI b) >>> ((6 : Int32) &&& 31) = nI ((a * 200 + b) / 64) := by
    rw [show (200 : Int32) = nI 200 from rfl, nmul, nadd, l_word (by omega)]
  have hbt : (1 : Int64) <<< (Int32.toInt64 ((nI a * 200 + nI b) &&& 63) &&& 63) = lN (2 ^ ((a * 200 + b) % 64)) := by
    rw [show (200 : Int32) = nI 200 from rfl, nmul, nadd, l_bit (by omega)]
  have hSp := hS (a * 200 + b) hp
  by_cases hex : ∃ e, e < m ∧ qa e = a ∧ qb e = b
  · left
    refine ⟨hex, ?_⟩
    obtain ⟨e, he, rfl, rfl⟩ := hex
    have hbit : sb (la 502 ((qa e * 200 + qb e) / 64)) ((qa e * 200 + qb e) % 64) = true := hSp.mpr ⟨e, he, rfl⟩
    unfold mX5_enter
    rw [hix, hbt]
    by_cases hm2 : m < 40000
    · rw [show (40000 : Int32) = nI 40000 from rfl, h503]
      simp (disch := omega) only [bitn, bitn0, bit1n, ↓e_m1, ↓e_m2, ↓e_m3, ↓e_m11, ↓e_m12, ↓e_m13, ↓e_m14, ↓e_m15, ↓e_m16, nlit, nle, nlt, neq, ncl, nadd, nmul, obe, obce, upr, aur, m1ne, m1ne2, m1lt, m1le, m1nle, m1nlt, if_pos, if_neg, false_or, or_false, or_self, true_or, or_true, if_true, if_false, ite_true, ite_false, reduceIte, reduceCtorEq, Nat.not_lt_zero, Nat.zero_le, Option.some.injEq, Prod.mk.injEq]
      rw [show (nI 0 : Int32) = 0 from rfl]
      rw [if_neg]
      rw [sb_test hj, hbit]
      decide
    · rw [show (40000 : Int32) = nI 40000 from rfl, h503]
      simp (disch := omega) only [bitn, bitn0, bit1n, ↓e_m1, ↓e_m2, ↓e_m3, ↓e_m11, ↓e_m12, ↓e_m13, ↓e_m14, ↓e_m15, ↓e_m16, nlit, nle, nlt, neq, ncl, nadd, nmul, obe, obce, upr, aur, m1ne, m1ne2, m1lt, m1le, m1nle, m1nlt, if_pos, if_neg, false_or, or_false, or_self, true_or, or_true, if_true, if_false, ite_true, ite_false, reduceIte, reduceCtorEq, Nat.not_lt_zero, Nat.zero_le, Option.some.injEq, Prod.mk.injEq]
  · right
    have hne : ∀ e, e < m → ¬ (qa e = a ∧ qb e = b) := fun e he h => hex ⟨e, he, h⟩
    have hneP : ∀ e, e < m → qa e * 200 + qb e ≠ a * 200 + b := by
      intro e he h
      obtain ⟨h1, h2, -⟩ := hE e he
      exact hne e he ⟨by omega, by omega⟩
    refine ⟨hne, ?_⟩
    have hD2 : oD (m + 1) (va_up qa m a) (va_up qb m b) := by
      intro i j hi hj2 e
      simp only [upr] at e
      by_cases e1 : i = m <;> by_cases e2 : j = m
      · omega
      · simp only [e1, e2, if_true, if_false] at e
        exact absurd e.symm (hneP j (by omega))
      · simp only [e1, e2, if_true, if_false] at e
        exact absurd e (hneP i (by omega))
      · simp only [e1, e2, if_false] at e
        exact hD i j (by omega) (by omega) e
    have hm2 : m < 40000 := by
      have := pigeon 40000 (m + 1) (fun i => va_up qa m a i * 200 + va_up qb m b i) (by
        intro i hi
        simp only [upr]
        by_cases e : i = m
        · simp only [e, if_true]; exact hp
        · simp only [e, if_false]
          obtain ⟨h1, h2, -⟩ := hE i (by omega)
          omega) hD2
      omega
    have hbit : sb (la 502 ((a * 200 + b) / 64)) ((a * 200 + b) % 64) = false := by
      cases hc : sb (la 502 ((a * 200 + b) / 64)) ((a * 200 + b) % 64) with
      | false => rfl
      | true =>
        obtain ⟨e, he, h⟩ := hSp.mp hc
        exact absurd h (hneP e he)
    refine ⟨lu (lu la 502 ((a * 200 + b) / 64) (la 502 ((a * 200 + b) / 64) ||| lN (2 ^ ((a * 200 + b) % 64)))) 501 m (lN (qP f l a b)), ?_, ?_, ?_, ?_, hD2⟩
    · unfold mX5_enter
      rw [hix, hbt, l_pack (by omega) hl (by omega) (by omega)]
      rw [show (40000 : Int32) = nI 40000 from rfl, h503]
      have ht := sb_test (w := la 502 ((a * 200 + b) / 64)) hj
      rw [hbit, eq_self] at ht
      have ht := of_eq_true ht
      rw [ncl (by omega), if_pos ht]
      simp (disch := omega) only [bitn, bitn0, bit1n, ↓e_m1, ↓e_m2, ↓e_m3, ↓e_m11, ↓e_m12, ↓e_m13, ↓e_m14, ↓e_m15, ↓e_m16, nlit, nle, nlt, neq, ncl, nadd, nmul, obe, obce, upr, aur, m1ne, m1ne2, m1lt, m1le, m1nle, m1nlt, if_pos, if_neg, false_or, or_false, or_self, true_or, or_true, if_true, if_false, ite_true, ite_false, reduceIte, reduceCtorEq, Nat.not_lt_zero, Nat.zero_le, Option.some.injEq, Prod.mk.injEq]
    · intro k h1 h2
      unfold lu
      rw [va_up_ne _ _ h1, va_up_ne _ _ h2]
    · refine ⟨by omega, rfl, fun e he => ?_⟩
      simp only [upr, lur]
      by_cases e1 : e = m
      · simp only [e1, if_true]
        exact ⟨ha, hb, hl, hf, trivial⟩
      · simp only [e1, if_false]
        simpa using hE e (by omega)
    · intro p hp2
      simp only [lur]
      have hpm : p % 64 < 64 := Nat.mod_lt _ (by decide)
      have key : (∃ e, e < m + 1 ∧ va_up qa m a e * 200 + va_up qb m b e = p) ↔ (p = a * 200 + b ∨ ∃ e, e < m ∧ qa e * 200 + qb e = p) := by
        constructor
        · rintro ⟨e, he, h⟩
          simp only [upr] at h
          by_cases e1 : e = m
          · simp only [e1, if_true] at h; exact Or.inl h.symm
          · simp only [e1, if_false] at h; exact Or.inr ⟨e, by omega, h⟩
        · rintro (h | ⟨e, he, h⟩)
          · exact ⟨m, by omega, by simp only [upr, if_true]; exact h.symm⟩
          · refine ⟨e, by omega, ?_⟩
            have e1 : ¬ e = m := by omega
            simp only [upr, e1, if_false]; exact h
      rw [key, ← hS p hp2]
      have e5 : ¬ (502 : Nat) = 501 := by decide
      simp only [e5, if_false, if_true]
      by_cases ew : p / 64 = (a * 200 + b) / 64
      · rw [if_pos ew, sb_set hj hpm, ew, Bool.or_eq_true, decide_eq_true_eq]
        constructor
        · rintro (h | h)
          · exact Or.inr h
          · exact Or.inl (by omega)
        · rintro (h | h)
          · exact Or.inr (by omega)
          · exact Or.inl h
      · rw [if_neg ew]
        constructor
        · exact Or.inr
        · rintro (h | h)
          · exact absurd (by rw [h]) ew
          · exact h
