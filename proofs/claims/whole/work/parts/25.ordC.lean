/-- the queue of the search, the seen pairs -/
def oQ (m : Nat) (qa qb ql qf : Nat → Nat) (iv : mI) (la : mL) : Prop := m ≤ 40000 ∧ iv 503 = nI m ∧ ∀ e, e < m → qa e < 200 ∧ qb e < 200 ∧ ql e < 8 ∧ qf e < 40000 ∧ la 501 e = lN (qP (qf e) (ql e) (qa e) (qb e))
def oS (m : Nat) (qa qb : Nat → Nat) (la : mL) : Prop := ∀ p, p < 40000 → (sb (la 502 (p / 64)) (p % 64) = true ↔ ∃ e, e < m ∧ qa e * 200 + qb e = p)
def ordI (iv : mI) (la : mL) : Prop := ∃ (m : Nat) (qa qb ql qf : Nat → Nat), oQ m qa qb ql qf iv la ∧ oS m qa qb la
theorem forget_loop {m : Nat} {qa qb ql qf : Nat → Nat} {iv : mI} {la : mL} (hQ : oQ m qa qb ql qf iv la) {ar : mA} {pA pB : mA} : ∀ (n i : Nat) (la1 : mL), i ≤ m → m < i + n → (∀ k, k ≠ 502 → la1 k = la k) → (∀ w, la1 502 w = la 502 w ∨ la1 502 w = 0) → (∀ e, e < i → la1 502 ((qa e * 200 + qb e) / 64) = 0) → ∃ la2, mX5_forget_L2 n (nI i) iv ar la1 pA pB = some (0, va_up iv 503 0, ar, la2, pA, pB) ∧ (∀ k, k ≠ 502 → la2 k = la k) ∧ (∀ w, la2 502 w = la 502 w ∨ la2 502 w = 0) ∧ ∀ e, e < m → la2 502 ((qa e * 200 + qb e) / 64) = 0 := by
  obtain ⟨hm, h503, hE⟩ := hQ
  intro n
  induction n with
  | zero => intro i la1 h1 h2; omega
  | succ n ih =>
    intro i la1 h1 h2 h3 h4 h5
    unfold mX5_forget_L2
    by_cases hi : i = m
    · subst hi
      refine ⟨la1, ?_, h3, h4, h5⟩
      rw [if_pos (by rw [h503]; exact Int32.le_refl _)]
    · have hi : i < m := by omega
      obtain ⟨ha, hb, hl, hf, h501⟩ := hE i hi
      have hlt := qP_lt (f := qf i) (l := ql i) (a := qa i) (b := qb i) (by omega) hl (by omega) (by omega)
      have h6 : la1 501 i = lN (qP (qf i) (ql i) (qa i) (qb i)) := by rw [h3 501 (by decide)]; exact h501
      have hp : qa i * 200 + qb i < 40000 := by omega
      have hix : (((((la1 501 (nI i).toNatClampNeg) >>> (Int32.toInt64 8 &&& 63)) &&& 255).toInt32) * 200) + (((la1 501 (nI i).toNatClampNeg) &&& 255).toInt32) = nI (qa i * 200 + qb i) := by
        rw [ncl (by omega), h6, l_hi hlt, l_lo hlt, qP_a hl (by omega) (by omega), qP_b hl (by omega) (by omega), show (200 : Int32) = nI 200 from rfl, nmul, nadd]
      rw [hix, l_word (by omega)]
      have hw : (qa i * 200 + qb i) / 64 < 625 := by omega
      rw [show (40000 : Int32) = nI 40000 from rfl, h503]
      simp (disch := omega) only [bitn, bitn0, bit1n, ↓e_m1, ↓e_m2, ↓e_m3, ↓e_m11, ↓e_m12, ↓e_m13, ↓e_m14, ↓e_m15, ↓e_m16, nlit, nle, nlt, neq, ncl, nadd, nmul, obe, obce, upr, aur, m1ne, m1ne2, m1lt, m1le, m1nle, m1nlt, if_pos, if_neg, false_or, or_false, or_self, true_or, or_true, if_true, if_false, ite_true, ite_false, reduceIte, reduceCtorEq, Nat.not_lt_zero, Nat.zero_le, Option.some.injEq, Prod.mk.injEq]
      refine ih (i + 1) _ (by omega) (by omega) ?_ ?_ ?_
      · intro k hk
        unfold lu
        rw [va_up_ne _ _ hk]
        exact h3 k hk
      · intro w
        rw [lur, if_pos rfl]
        by_cases e : w = (qa i * 200 + qb i) / 64
        · rw [if_pos e]; exact Or.inr rfl
        · rw [if_neg e]; exact h4 w
      · intro e he
        rw [lur, if_pos rfl]
        by_cases e2 : (qa e * 200 + qb e) / 64 = (qa i * 200 + qb i) / 64
        · rw [if_pos e2]
        · rw [if_neg e2]
          have hne : e ≠ i := fun h => e2 (by rw [h])
          exact h5 e (by omega)
theorem c_forget {iv : mI} {la : mL} (h : ordI iv la) {ar : mA} {pA pB : mA} : ∃ la2, mX5_forget iv ar la pA pB = some (0, va_up iv 503 0, ar, la2, pA, pB) ∧ (∀ k, k ≠ 502 → la2 k = la k) ∧ ∀ w, w < 625 → la2 502 w = 0 := by
  obtain ⟨m, qa, qb, ql, qf, hQ, hS⟩ := h
  obtain ⟨la2, h1, h2, h3, h4⟩ := forget_loop hQ (ar := ar) (pA := pA) (pB := pB) bigF 0 la (by omega) (by have := hQ.1; unfold bigF; omega) (fun _ _ => rfl) (fun _ => Or.inl rfl) (fun e he => absurd he (Nat.not_lt_zero e))
  refine ⟨la2, h1, h2, fun w hw => ?_⟩
  rcases h3 w with h5 | h5
  · apply Classical.byContradiction
    intro hne
    obtain ⟨j, hj, hb⟩ := sb_nz hne
    rw [h5] at hb
    have e1 : (w * 64 + j) / 64 = w := by omega
    have e2 : (w * 64 + j) % 64 = j := by omega
    obtain ⟨e, he, hp⟩ := (hS (w * 64 + j) (by omega)).mp (by rw [e1, e2]; exact hb)
    have := h4 e he
    rw [hp, e1] at this
    exact hne this
  · exact h5
/-- no more different numbers below N than N -/
theorem pigeon : ∀ (N m : Nat) (f : Nat → Nat), (∀ i, i < m → f i < N) → (∀ i j, i < m → j < m → f i = f j → i = j) → m ≤ N := by
  intro N
  induction N with
  | zero =>
    intro m f h1 _
    cases m with
    | zero => exact Nat.le_refl 0
    | succ m => exact absurd (h1 0 (by omega)) (Nat.not_lt_zero _)
  | succ N ih =>
    intro m f h1 h2
    by_cases hN : ∃ i, i < m ∧ f i = N
    · obtain ⟨i, hi, hfi⟩ := hN
      have := ih (m - 1) (fun j => if j < i then f j else f (j + 1)) (by
        intro j hj
        by_cases hji : j < i
        · simp only [hji, if_true]
          have a := h1 j (by omega)
          have b : f j ≠ N := fun e => by have := h2 j i (by omega) hi (by rw [e, hfi]); omega
          omega
        · simp only [hji, if_false]
          have a := h1 (j + 1) (by omega)
          have b : f (j + 1) ≠ N := fun e => by have := h2 (j + 1) i (by omega) hi (by rw [e, hfi]); omega
          omega) (by
        intro j k hj hk e
        by_cases hji : j < i <;> by_cases hki : k < i <;> simp only [hji, hki, if_true, if_false] at e
        · exact h2 j k (by omega) (by omega) e
        · have := h2 j (k + 1) (by omega) (by omega) e; omega
        · have := h2 (j + 1) k (by omega) (by omega) e; omega
        · have := h2 (j + 1) (k + 1) (by omega) (by omega) e; omega)
      omega
    · have := ih m f (by
        intro i hi
        have a := h1 i hi
        have b : f i ≠ N := fun e => hN ⟨i, hi, e⟩
        omega) h2
      omega
