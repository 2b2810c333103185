-- a node more, of the reference
theorem newNode_loop {n : Nat} {iw : mI} (hn : n < 400) (h3 : iw 3 = nI n) : ∀ (fu l : Nat) (aw : mA), 8 < l + fu → l ≤ 8 → ∃ aw2, mX12_newNode_L31 fu (nI l) iw aw = some (nI n, va_up iw 3 (nI (n + 1)), aw2) ∧ (∀ j, j ≠ 6 → aw2 j = aw j) ∧ (∀ p, (p < 8 * n + l ∨ 8 * n + 8 ≤ p) → aw2 6 p = aw 6 p) := by
  intro fu
  induction fu with
  | zero => intro l aw h1 h2; omega
  | succ fu ih =>
    intro l aw h1 h2
    unfold mX12_newNode_L31
    by_cases hl : l = 8
    · subst hl
      refine ⟨aw, ?_, fun _ _ => rfl, fun _ _ => rfl⟩
      rw [if_pos (show (8 : Int32) ≤ nI 8 from nI_le (Nat.le_refl 8) (by decide)), h3, show (1 : Int32) = nI 1 from rfl, nadd]
      simp only [upr, if_true]
      rw [nsub (by omega), Nat.add_sub_cancel]
    · have e1 : (8 * iw 3 + nI l : Int32) = nI (8 * n + l) := by rw [h3, show (8 : Int32) = nI 8 from rfl, nmul, nadd]
      rw [if_neg (show ¬ (8 : Int32) ≤ nI l from nI_ge (show l < 8 by omega) (by decide)), e1, if_neg (nI_in (by omega) (by omega)), ncl (by omega), show (1 : Int32) = nI 1 from rfl, nadd]
      obtain ⟨aw2, r1, r2, r3⟩ := ih (l + 1) (au aw 6 (8 * n + l) (-nI 1)) (by omega) (by omega)
      refine ⟨aw2, r1, fun j hj => ?_, fun p hp => ?_⟩
      · rw [r2 j hj]
        unfold au
        rw [va_up_ne _ _ hj]
      · rw [r3 p (by omega), aur, if_pos rfl, if_neg (by omega)]
theorem r_newNode {n : Nat} {iw : mI} {aw : mA} (hn : n < 400) (h3 : iw 3 = nI n) {k b : Nat} (hk : k ≤ 6) : ∃ aw2, mX12_newNode (nI k) (nI b) iw aw = some (nI n, va_up iw 3 (nI (n + 1)), aw2) ∧ (∀ j, j ≠ 4 → j ≠ 5 → j ≠ 6 → aw2 j = aw j) ∧ (∀ p, p ≠ n → aw2 4 p = aw 4 p ∧ aw2 5 p = aw 5 p) ∧ aw2 4 n = nI k ∧ aw2 5 n = nI (if k = 4 then 3 else b) ∧ (∀ p, (p < 8 * n ∨ 8 * n + 8 ≤ p) → aw2 6 p = aw 6 p) := by
  have hin : ¬ (iw 3 < 0 ∨ 400 ≤ (iw 3).toNatClampNeg) := by rw [h3]; exact nI_in (by omega) (by omega)
  unfold mX12_newNode
  simp only [hin, if_false]
  rw [h3, ncl (by omega)]
  have main : ∀ x : Int32, ∃ aw2, mX12_newNode_L31 bigF 0 iw (au (au aw 4 n (nI k)) 5 n x) = some (nI n, va_up iw 3 (nI (n + 1)), aw2) ∧ (∀ j, j ≠ 4 → j ≠ 5 → j ≠ 6 → aw2 j = aw j) ∧ (∀ p, p ≠ n → aw2 4 p = aw 4 p ∧ aw2 5 p = aw 5 p) ∧ aw2 4 n = nI k ∧ aw2 5 n = x ∧ (∀ p, (p < 8 * n ∨ 8 * n + 8 ≤ p) → aw2 6 p = aw 6 p) := by
    intro x
    obtain ⟨aw2, r1, r2, r3⟩ := newNode_loop hn h3 bigF 0 (au (au aw 4 n (nI k)) 5 n x) (by unfold bigF; omega) (by omega)
    refine ⟨aw2, ?_, fun j j1 j2 j3 => ?_, fun p hp => ?_, ?_, ?_, fun p hp => ?_⟩
    · generalize bigF = F at r1 ⊢
      rw [nz]
      exact r1
    · rw [r2 j j3]
      unfold au
      rw [va_up_ne _ _ j2, va_up_ne _ _ j1]
    · rw [r2 4 (by decide), r2 5 (by decide)]
      simp [aur, hp]
    · rw [r2 4 (by decide)]
      simp [aur]
    · rw [r2 5 (by decide)]
      simp [aur]
    · rw [r3 p (by omega)]
      simp [aur]
  by_cases e : k = 4
  · subst e
    obtain ⟨aw2, r⟩ := main 3
    exact ⟨aw2, by rw [if_pos (show nI 4 = 4 from rfl)]; exact r.1, r.2.1, r.2.2.1, r.2.2.2.1, by rw [if_pos rfl]; exact r.2.2.2.2.1, r.2.2.2.2.2⟩
  · obtain ⟨aw2, r⟩ := main (nI b)
    refine ⟨aw2, ?_, r.2.1, r.2.2.1, r.2.2.2.1, by rw [if_neg e]; exact r.2.2.2.2.1, r.2.2.2.2.2⟩
    rw [if_neg (show ¬ nI k = 4 by rw [show (4 : Int32) = nI 4 from rfl, neq (by omega) (by omega)]; exact e)]
    exact r.1
theorem r_ask {qs : List Ask} {iw : mI} {aw : mA} (hq : qs.length < 4000) (h17 : iw 17 = nI qs.length) (hs : stkR aw qs) (q : Ask) : ∃ aw2, mX12_ask (nI q.1) (nI q.2.1) (nI q.2.2.1) (nI q.2.2.2.1) (nI q.2.2.2.2) iw aw = some (0, va_up iw 17 (nI (qs.length + 1)), aw2) ∧ (∀ j, j < 12 ∨ 16 < j → aw2 j = aw j) ∧ stkR aw2 (q :: qs) := by
  have hin : ¬ (iw 17 < 0 ∨ 4000 ≤ (iw 17).toNatClampNeg) := by rw [h17]; exact nI_in (by omega) (by omega)
  refine ⟨au (au (au (au (au aw 12 qs.length (nI q.1)) 13 qs.length (nI q.2.1)) 14 qs.length (nI q.2.2.1)) 15 qs.length (nI q.2.2.2.1)) 16 qs.length (nI q.2.2.2.2), ?_, fun j hj => ?_, ?_⟩
  · unfold mX12_ask
    simp only [hin, if_false]
    rw [h17, ncl (by omega), show (1 : Int32) = nI 1 from rfl, nadd]
  · unfold au
    rw [va_up_ne _ _ (by omega), va_up_ne _ _ (by omega), va_up_ne _ _ (by omega), va_up_ne _ _ (by omega), va_up_ne _ _ (by omega)]
  · have keep : ∀ (xs : List Ask), xs.length ≤ qs.length → stkR aw xs → stkR (au (au (au (au (au aw 12 qs.length (nI q.1)) 13 qs.length (nI q.2.1)) 14 qs.length (nI q.2.2.1)) 15 qs.length (nI q.2.2.2.1)) 16 qs.length (nI q.2.2.2.2)) xs := by
      intro xs
      induction xs with
      | nil => intro _ _; trivial
      | cons x xs ih =>
        rintro hx ⟨a1, a2, a3, a4, a5, a6⟩
        have hx : xs.length + 1 ≤ qs.length := hx
        have hne : ¬ xs.length = qs.length := by omega
        refine ⟨?_, ?_, ?_, ?_, ?_, ih (by omega) a6⟩
        · simp [aur, hne, a1]
        · simp [aur, hne, a2]
        · simp [aur, hne, a3]
        · simp [aur, hne, a4]
        · simp [aur, hne, a5]
    refine ⟨?_, ?_, ?_, ?_, ?_, keep qs (Nat.le_refl _) hs⟩
    · simp [aur]
    · simp [aur]
    · simp [aur]
    · simp [aur]
    · simp [aur]
