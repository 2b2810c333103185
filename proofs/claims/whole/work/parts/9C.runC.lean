theorem newV_loop {nv : Nat} {iw : mI} (hn : nv < 2000) (h : iw 56 = nI nv) : ∀ (d l N : Nat) (aw : mA), 8 - l = d → l ≤ 8 → d < N → ∃ aw2, mX12_newValue_L40 N (nI l) iw aw = some (nI nv, va_up iw 56 (nI (nv + 1)), aw2) ∧ (∀ r, r ≠ 60 → aw2 r = aw r) ∧ (∀ p, p < 8 * nv + l ∨ 8 * nv + 8 ≤ p → aw2 60 p = aw 60 p) ∧ (∀ i, l ≤ i → i < 8 → aw2 60 (8 * nv + i) = m1) := by
  intro d
  induction d with
  | zero =>
    intro l N aw hd hl hN
    obtain ⟨N, rfl⟩ : ∃ x, N = x + 1 := ⟨N - 1, by omega⟩
    refine ⟨aw, ?_, fun _ _ => rfl, fun _ _ => rfl, fun i h1 h2 => by omega⟩
    rw [mX12_newValue_L40]
    rw [if_pos (show (8 : Int32) ≤ nI l from nI_le (show 8 ≤ l by omega) (by omega)), h, show nI nv + 1 = nI (nv + 1) from nadd _ 1, va_up_self, nsub1]
  | succ d ih =>
    intro l N aw hd hl hN
    obtain ⟨N, rfl⟩ : ∃ x, N = x + 1 := ⟨N - 1, by omega⟩
    obtain ⟨aw2, a1, a2, a3, a4⟩ := ih (l + 1) N (au aw 60 (8 * nv + l) (-1)) (by omega) (by omega) (by omega)
    refine ⟨aw2, ?_, fun r hr => by rw [a2 r hr, au_ne _ hr], fun p hp => by rw [a3 p (by omega), au_ni _ (by omega)], fun i h1 h2 => ?_⟩
    · rw [← a1]
      conv => lhs; rw [mX12_newValue_L40]
      rw [if_neg (show ¬ (8 : Int32) ≤ nI l from nI_ge (show l < 8 by omega) (by decide)), h, show (8 : Int32) * nI nv + nI l = nI (8 * nv + l) by rw [show (8 : Int32) = nI 8 from rfl, nmul, nadd], if_neg (by first | exact nI_in (by omega) (by omega) | exact nI_inn (by omega) (by omega)), ncl (by omega), show nI l + 1 = nI (l + 1) from nadd _ 1]
    · by_cases e : i = l
      · rw [e, a3 _ (by omega), au_self]
        rfl
      · exact a4 i (by omega) h2
/-- a value more, in both, or no room for it -/
theorem newV_both {nv K : Nat} {x : Int32} {iv : mI} {ar : mA} {la : mL} {pA pB : mA} {iw : mI} {aw : mA} (hn : nv ≤ 2000) (h1 : iv 1005 = nI nv) (h2 : iw 56 = nI nv) :
    (nv < 2000 ∧ ∃ aw2, mX10_add (nI K) x iv ar la pA pB = some (nI nv, va_up iv 1005 (nI (nv + 1)), au (au (au (au ar 1000 nv (nI K)) 1001 nv x) 1003 nv (-1)) 1004 nv (-1), la, pA, pB) ∧ mX12_newValue (nI K) x iw aw = some (nI nv, va_up iw 56 (nI (nv + 1)), aw2) ∧ (∀ r, r ≠ 58 → r ≠ 59 → r ≠ 60 → aw2 r = aw r) ∧ (∀ p, aw2 58 p = if p = nv then nI K else aw 58 p) ∧ (∀ p, aw2 59 p = if p = nv then x else aw 59 p) ∧ (∀ p, p < 8 * nv ∨ 8 * nv + 8 ≤ p → aw2 60 p = aw 60 p) ∧ ∀ i, i < 8 → aw2 60 (8 * nv + i) = m1) ∨
    (nv = 2000 ∧ mX10_add (nI K) x iv ar la pA pB = some (-1, iv, ar, la, pA, pB) ∧ mX12_newValue (nI K) x iw aw = some (-1, va_up iw 72 m16, aw)) := by
  obtain ⟨F, hF, hFF⟩ : ∃ F, bigF = F + 1 ∧ 5000 < F := ⟨999999, rfl, by omega⟩
  by_cases e : nv = 2000
  · refine Or.inr ⟨e, ?_, ?_⟩
    · unfold mX10_add
      rw [h1, e, if_neg (show ¬ nI 2000 < (2000 : Int32) by decide)]
    · unfold mX12_newValue
      rw [h2, e, if_pos (show nI 2000 = 2000 from rfl)]
      rfl
  · have hlt : nv < 2000 := by omega
    obtain ⟨aw2, a1, a2, a3, a4⟩ := newV_loop hlt h2 8 0 bigF (au (au aw 58 nv (nI K)) 59 nv x) (by omega) (by omega) (by omega)
    refine Or.inl ⟨hlt, aw2, ?_, ?_, fun r r1 r2 r3 => by rw [a2 r r3, au_ne _ r2, au_ne _ r1], fun p => ?_, fun p => ?_, fun p hp => by rw [a3 p (by omega)]; rfl, fun i hi => a4 i (Nat.zero_le i) hi⟩
    · unfold mX10_add
      rw [h1, if_pos (show nI nv < (2000 : Int32) from nI_lt hlt (by decide)), if_neg (by first | exact nI_in (by omega) (by omega) | exact nI_inn (by omega) (by omega)), if_neg (by first | exact nI_in (by omega) (by omega) | exact nI_inn (by omega) (by omega)), if_neg (by first | exact nI_in (by omega) (by omega) | exact nI_inn (by omega) (by omega)), if_neg (by first | exact nI_in (by omega) (by omega) | exact nI_inn (by omega) (by omega)), ncl (by omega), show nI nv + 1 = nI (nv + 1) from nadd _ 1, va_up_self, nsub1]
    · unfold mX12_newValue
      rw [h2, if_neg (show ¬ nI nv = 2000 from fun q => e ((nI_eq (b := 2000) (by omega) (by decide)).mp q)), if_neg (by first | exact nI_in (by omega) (by omega) | exact nI_inn (by omega) (by omega)), if_neg (by first | exact nI_in (by omega) (by omega) | exact nI_inn (by omega) (by omega)), ncl (by omega)]
      exact a1
    · rw [a2 58 (by decide), au_ne _ (by decide), aur, if_pos rfl]
    · rw [a2 59 (by decide), aur, if_pos rfl]
      rfl
/-- something more is bound, in both -/
theorem cell_both {nc : Nat} {x y : Int32} {iv : mI} {ar : mA} {la : mL} {pA pB : mA} {iw : mI} {aw : mA} (hn : nc < 20000) (h : cR nc iv ar iw aw) :
    mX1_add x y iv ar la pA pB = some (nI nc, va_up iv 102 (nI (nc + 1)), au (au ar 100 nc x) 101 nc y, la, pA, pB) ∧ mX12_bind x y iw aw = some (nI nc, va_up iw 65 (nI (nc + 1)), au (au aw 63 nc x) 64 nc y) ∧ cR (nc + 1) (va_up iv 102 (nI (nc + 1))) (au (au ar 100 nc x) 101 nc y) (va_up iw 65 (nI (nc + 1))) (au (au aw 63 nc x) 64 nc y) := by
  obtain ⟨⟨h1, h2⟩, h3⟩ := h
  refine ⟨?_, ?_, ⟨rfl, rfl⟩, fun i hi => ?_⟩
  · unfold mX1_add
    rw [h1, if_pos (show nI nc < (20000 : Int32) from nI_lt hn (by decide)), if_neg (by first | exact nI_in (by omega) (by omega) | exact nI_inn (by omega) (by omega)), if_neg (by first | exact nI_in (by omega) (by omega) | exact nI_inn (by omega) (by omega)), ncl (by omega), show nI nc + 1 = nI (nc + 1) from nadd _ 1, va_up_self, nsub1]
  · unfold mX12_bind
    rw [h2, if_neg (by first | exact nI_in (by omega) (by omega) | exact nI_inn (by omega) (by omega)), if_neg (by first | exact nI_in (by omega) (by omega) | exact nI_inn (by omega) (by omega)), ncl (by omega), show nI nc + 1 = nI (nc + 1) from nadd _ 1, va_up_self, nsub1]
  · by_cases e : i = nc
    · subst e
      rw [au_ne _ (by decide), au_self, au_ne _ (by decide), au_self, au_self, au_self]
      exact ⟨rfl, rfl⟩
    · rw [au_ne _ (by decide), au_ni _ e, au_ne _ (by decide), au_ni _ e, au_ni _ e, au_ne _ (by decide), au_ni _ e, au_ne _ (by decide)]
      exact h3 i (by omega)
/-- the value of a variable, in both -/
theorem var_both {kd lb : Nat → Nat} {pt : Nat → Nat → Nat} {va τ : Nat → Nat} {nv nc : Nat} {iv : mI} {ar : mA} {la : mL} {pA pB : mA} {iw : mI} {aw : mA} {k J : Nat} (hk : k < 200) (hJ : J < 2147483648) (h41 : aw 41 k = nI J) (hn : nc ≤ 20000) (h : cR nc iv ar iw aw) : ∀ (s : List Nat) (c : Int32) (j h0 n1 n2 : Nat), s[j]? = some h0 → s.length < n1 → s.length < n2 → j ≤ J → eOK kd lb pt va τ nv nc ar s c → ∃ w, w < nv ∧ blw kd lb pt (τ w) (va h0) ∧ mX1_valueAt_L5 n1 (nI J) c (nI (J - j)) iv ar la pA pB = some (nI w, iv, ar, la, pA, pB) ∧ mX12_finish_L110 n2 (nI k) c (nI (J - j)) iw aw = some (nI w, iw, aw)
  | [], c, j, h0, n1, n2, e, _, _, _, _ => by simp at e
  | h1 :: s, c, 0, h0, n1, n2, e, hn1, hn2, hj, ⟨i, w, a1, a2, a3, a4, a5, a6⟩ => by
    obtain ⟨n1, rfl⟩ : ∃ x, n1 = x + 1 := ⟨n1 - 1, by omega⟩
    obtain ⟨n2, rfl⟩ : ∃ x, n2 = x + 1 := ⟨n2 - 1, by omega⟩
    simp at e
    subst e
    refine ⟨w, a3, a5, ?_, ?_⟩
    · rw [mX1_valueAt_L5]
      rw [Nat.sub_zero, if_pos (nI_le (Nat.le_refl J) hJ), a2]
      unfold mX1_valueAt_J36
      rw [if_neg (nI_pos (by omega)), h.1.1, if_neg (nI_ge a1 (by omega)), if_neg (by first | exact nI_in (by omega) (by omega) | exact nI_inn (by omega) (by omega)), ncl (by omega), a4]
    · rw [mX12_finish_L110]
      rw [if_neg (by first | exact nI_in (by omega) (by omega) | exact nI_inn (by omega) (by omega)), ncl (by omega), h41, Nat.sub_zero, if_pos (nI_le (Nat.le_refl J) hJ), a2, if_neg (by first | exact nI_in (by omega) (by omega) | exact nI_inn (by omega) (by omega)), ncl (by omega), ← (h.2 i a1).1, a4]
  | h1 :: s, c, j + 1, h0, n1, n2, e, hn1, hn2, hj, ⟨i, w, a1, a2, a3, a4, a5, a6⟩ => by
    rw [List.length_cons] at hn1 hn2
    obtain ⟨n1, rfl⟩ : ∃ x, n1 = x + 1 := ⟨n1 - 1, by omega⟩
    obtain ⟨n2, rfl⟩ : ∃ x, n2 = x + 1 := ⟨n2 - 1, by omega⟩
    obtain ⟨w2, b1, b2, b3, b4⟩ := var_both hk hJ h41 hn h s (ar 101 i) j h0 n1 n2 (by simpa using e) (by omega) (by omega) (by omega) a6
    refine ⟨w2, b1, b2, ?_, ?_⟩
    · rw [← b3]
      conv => lhs; rw [mX1_valueAt_L5]
      rw [if_neg (nI_ge (show J - (j + 1) < J by omega) (by omega)), a2, if_neg (nI_pos (by omega)), h.1.1, if_neg (nI_ge a1 (by omega)), if_neg (by first | exact nI_in (by omega) (by omega) | exact nI_inn (by omega) (by omega)), ncl (by omega), show nI (J - (j + 1)) + 1 = nI (J - j) by rw [show J - j = (J - (j + 1)) + 1 by omega]; exact nadd _ 1]
    · rw [← b4]
      conv => lhs; rw [mX12_finish_L110]
      rw [if_neg (by first | exact nI_in (by omega) (by omega) | exact nI_inn (by omega) (by omega)), ncl (by omega), h41, if_neg (nI_ge (show J - (j + 1) < J by omega) (by omega)), a2, if_neg (by first | exact nI_in (by omega) (by omega) | exact nI_inn (by omega) (by omega)), ncl (by omega), ← (h.2 i a1).2, show nI (J - (j + 1)) + 1 = nI (J - j) by rw [show J - j = (J - (j + 1)) + 1 by omega]; exact nadd _ 1]
