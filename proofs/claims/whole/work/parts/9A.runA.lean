section
variable {g : Nat} {kd lb : Nat → Nat} {m : Nat} {T : TT} {iv : mI} {ar : mA} {la : mL} {pA pB : mA}
theorem c_wordA (h : tAll g kd lb m T) (hc : tCl m T pA) {k : Nat} (hk : k < m) : mX6_wordA (nI (tPl T k)) iv ar la pA pB = some (nI (tWd T k), iv, ar, la, pA, pB) := by
  have hp := (h.2.2 k hk).1.2.2
  unfold mX6_wordA
  rw [if_neg (nI_pos (by omega)), if_neg (show ¬ (200 : Int32) ≤ nI (tPl T k) from nI_ge hp (by decide)), if_neg (by first | exact nI_in (by omega) (by omega) | exact nI_inn (by omega) (by omega)), ncl (by omega), (hc.2 k hk).1.1]
theorem c_word1A {p d : Nat} (hp : p + d < 200) : mX6_wordA (nI p + nI d) iv ar la pA pB = some (pA 0 (p + d), iv, ar, la, pA, pB) := by
  unfold mX6_wordA
  rw [nadd, if_neg (nI_pos (by omega)), if_neg (show ¬ (200 : Int32) ≤ nI (p + d) from nI_ge hp (by decide)), if_neg (by first | exact nI_in (by omega) (by omega) | exact nI_inn (by omega) (by omega)), ncl (by omega)]
theorem c_countA (h : tAll g kd lb m T) (hc : tCl m T pA) {k : Nat} (hk : k < m) : mX6_kidCountA (nI (tPl T k)) iv ar la pA pB = some (nI (tNk T k), iv, ar, la, pA, pB) := by
  have hp := (h.2.2 k hk).1.2.2
  unfold mX6_kidCountA
  rw [if_neg (nI_pos (by omega)), if_neg (show ¬ (200 : Int32) ≤ nI (tPl T k) from nI_ge hp (by decide)), if_neg (by first | exact nI_in (by omega) (by omega) | exact nI_inn (by omega) (by omega)), ncl (by omega), (hc.2 k hk).1.2.2, tAll_mn h hk]
theorem c_kidA (h : tAll g kd lb m T) (hc : tCl m T pA) {k i : Nat} (hk : k < m) (hi : i < tNk T k) : mX6_kidA (nI (tPl T k)) (nI i) iv ar la pA pB = some (nI (tPl T (tIn T k i)), iv, ar, la, pA, pB) := by
  have hp := (h.2.2 k hk).1.2.2
  have h9 := hOK9 (h.2.2 k hk).1.1
  unfold mX6_kidA
  rw [if_neg (nI_pos (show tPl T k < 2147483648 by omega)), if_neg (show ¬ (200 : Int32) ≤ nI (tPl T k) from nI_ge hp (by decide)), if_neg (nI_pos (show i < 2147483648 by omega)), if_neg (show ¬ (9 : Int32) ≤ nI i from nI_ge (show i < 9 by omega) (by decide))]
  unfold mX6_kidA_J26
  rw [if_neg (show ¬ (1 : Int32) = 0 by decide), if_neg (nI_in hp (by decide)), ncl (show tPl T k < 2147483648 by omega), (hc.2 k hk).1.2.2, tAll_mn h hk, if_neg (nI_ge hi (by omega)), show nI (tPl T k) * 9 + nI i = nI (tPl T k * 9 + i) by rw [show (9 : Int32) = nI 9 from rfl, nmul, nadd], if_neg (by first | exact nI_in (by omega) (by omega) | exact nI_inn (by omega) (by omega)), ncl (by omega), ((hc.2 k hk).2.1 i (by rw [tAll_mn h hk]; exact hi)).1]
theorem c_kidNA (h : tAll g kd lb m T) (hc : tCl m T pA) {k i : Nat} (hk : k < m) (hi : tNk T k ≤ i) (hi2 : i < 1000) : mX6_kidA (nI (tPl T k)) (nI i) iv ar la pA pB = some (-1, iv, ar, la, pA, pB) := by
  have hp := (h.2.2 k hk).1.2.2
  unfold mX6_kidA
  by_cases e9 : i < 9
  · rw [if_neg (nI_pos (show tPl T k < 2147483648 by omega)), if_neg (show ¬ (200 : Int32) ≤ nI (tPl T k) from nI_ge hp (by decide)), if_neg (nI_pos (show i < 2147483648 by omega)), if_neg (show ¬ (9 : Int32) ≤ nI i from nI_ge (show i < 9 by omega) (by decide))]
    unfold mX6_kidA_J26
    rw [if_neg (show ¬ (1 : Int32) = 0 by decide), if_neg (nI_in hp (by decide)), ncl (show tPl T k < 2147483648 by omega), (hc.2 k hk).1.2.2, tAll_mn h hk, if_pos (nI_le hi (by omega))]
  · rw [if_neg (nI_pos (show tPl T k < 2147483648 by omega)), if_neg (show ¬ (200 : Int32) ≤ nI (tPl T k) from nI_ge hp (by decide)), if_neg (nI_pos (show i < 2147483648 by omega)), if_pos (show (9 : Int32) ≤ nI i from nI_le (show 9 ≤ i by omega) (by omega))]
    unfold mX6_kidA_J26
    rw [if_pos rfl]
theorem c_kidTA (h : tAll g kd lb m T) (hc : tCl m T pA) {k j : Nat} (hk : k < m) (hj : j ≤ tNk T k) : mX6_kidInTurnA (nI (tPl T k)) (nI j) iv ar la pA pB = some (if j < tNk T k then nI (tPl T (tKt T k j)) else -1, iv, ar, la, pA, pB) := by
  have h9 := hOK9 (h.2.2 k hk).1.1
  have hw := (h.2.2 k hk).1.1.1
  unfold mX6_kidInTurnA
  rw [c_countA h hc hk, obce, c_wordA h hc hk, obce]
  by_cases e : j < tNk T k
  · rw [if_pos e]
    by_cases e32 : tWd T k = 32
    · have ekt : tKt T k j = tIn T k (if j = 0 then tNk T k - 1 else j - 1) := by unfold tKt tTp; rw [if_pos e32]
      rw [if_pos (show nI (tWd T k) = 32 by rw [e32]; rfl), if_pos (nI_lt e (by omega)), ekt]
      by_cases j0 : j = 0
      · rw [if_pos (show nI j = 0 by rw [j0]; rfl), if_pos j0, show nI (tNk T k) - 1 = nI (tNk T k - 1) by rw [show tNk T k = (tNk T k - 1) + 1 by omega, nsub1, Nat.add_sub_cancel], c_kidA h hc hk (by omega), obce]
      · rw [if_neg (show ¬ nI j = 0 from fun q => j0 ((nI_eq (b := 0) (by omega) (by decide)).mp q)), if_neg j0, show nI j - 1 = nI (j - 1) by rw [show j = (j - 1) + 1 by omega, nsub1, Nat.add_sub_cancel], c_kidA h hc hk (by omega), obce]
    · have ekt : tKt T k j = tIn T k j := by unfold tKt tTp; rw [if_neg e32]
      rw [if_neg (show ¬ nI (tWd T k) = 32 from fun q => e32 ((nI_eq (b := 32) (by omega) (by decide)).mp q)), c_kidA h hc hk e, obce, ekt]
  · rw [if_neg e]
    by_cases e32 : tWd T k = 32
    · rw [if_pos (show nI (tWd T k) = 32 by rw [e32]; rfl), if_neg (nI_nlt (by omega) (by omega)), c_kidNA h hc hk (by omega) (by omega), obce]
    · rw [if_neg (show ¬ nI (tWd T k) = 32 from fun q => e32 ((nI_eq (b := 32) (by omega) (by decide)).mp q)), c_kidNA h hc hk (by omega) (by omega), obce]
theorem c_labelA (h : tAll g kd lb m T) (hc : tCl m T pA) {k i : Nat} (hk : k < m) (hi : i < tNk T k) (hl : tLd T k i) : mX6_labelOfA (nI (tPl T (tIn T k i))) iv ar la pA pB = some (nI (tLa T k i), iv, ar, la, pA, pB) := by
  have hx := ((h.2.2 k hk).2.2 i (by rw [tAll_mn h hk]; exact hi)).1
  have hp := (h.2.2 (tIn T k i) hx.2.1).1.2.2
  obtain ⟨p1, p2⟩ := ((hc.2 k hk).2.1 i (by rw [tAll_mn h hk]; exact hi)).2 hl
  unfold mX6_labelOfA
  rw [if_neg (show ¬ nI (tPl T (tIn T k i)) ≤ (0 : Int32) from nI_ge p1 (by omega)), if_neg (show ¬ (200 : Int32) < nI (tPl T (tIn T k i)) from nI_nlt (show tPl T (tIn T k i) ≤ 200 by omega) (by decide)), show nI (tPl T (tIn T k i)) - 1 = nI (tPl T (tIn T k i) - 1) by rw [show tPl T (tIn T k i) = (tPl T (tIn T k i) - 1) + 1 by omega, nsub1, Nat.add_sub_cancel], if_neg (by first | exact nI_in (by omega) (by omega) | exact nI_inn (by omega) (by omega)), ncl (by omega), p2]
end
