def jL10 (c : Nat) : Int32 := nI c + (-1)
theorem jL10_s (c : Nat) : jL10 (c + 1) = nI c := pk_m1 c
theorem jal_step {kd lb : Nat → Nat} {pt : Nat → Nat → Nat} {th ta tb : Nat → Nat} {o p : Nat} (hp : p < 8) : jal kd lb pt th ta tb o p = if jboth lb (ta o) (tb o) p = true then (jsub kd (th o) (ta o) p, pt (ta o) p, pt (tb o) p, o, p) :: jal kd lb pt th ta tb o (p + 1) else jal kd lb pt th ta tb o (p + 1) := by
  unfold jal
  generalize hB : jboth lb (ta o) (tb o) = B
  have h8 : List.range 8 = [0, 1, 2, 3, 4, 5, 6, 7] := by decide
  rw [h8]
  rcases (show p = 0 ∨ p = 1 ∨ p = 2 ∨ p = 3 ∨ p = 4 ∨ p = 5 ∨ p = 6 ∨ p = 7 by omega) with rfl | rfl | rfl | rfl | rfl | rfl | rfl | rfl
  all_goals (cases hb : B _ <;> simp [List.filter_cons, hb])
theorem jal_8 {kd lb : Nat → Nat} {pt : Nat → Nat → Nat} {th ta tb : Nat → Nat} {o : Nat} : jal kd lb pt th ta tb o 8 = [] := by
  unfold jal
  rw [List.map_eq_nil_iff, List.filter_eq_nil_iff]
  intro l hl
  rw [List.mem_range] at hl
  simp
  omega
theorem jal_len {kd lb : Nat → Nat} {pt : Nat → Nat → Nat} {th ta tb : Nat → Nat} {o p : Nat} : (jal kd lb pt th ta tb o p).length ≤ 8 := by
  unfold jal
  rw [List.length_map]
  exact Nat.le_trans (List.length_filter_le _ _) (by simp)
