def pot (P : Nat → Nat) : List Nat → Nat
  | [] => 0
  | o :: os => (9 - P o) + pot P os
theorem pot_congr {P P2 : Nat → Nat} : ∀ (os : List Nat), (∀ o, o ∈ os → P2 o = P o) → pot P2 os = pot P os
  | [], _ => rfl
  | o :: os, h => by
    unfold pot
    rw [h o List.mem_cons_self, pot_congr os (fun x hx => h x (List.mem_cons_of_mem _ hx))]
theorem up_comm {α : Type} {p : Nat → α} {i j : Nat} {x y : α} (h : i ≠ j) : va_up (va_up p i x) j y = va_up (va_up p j y) i x := by
  funext k
  simp only [upr]
  by_cases a : k = i <;> by_cases b : k = j <;> simp [a, b] <;> omega
def fC (iv : mI) (ar : mA) (iv2 : mI) (ar2 : mA) : Prop := (∀ k, k ≠ 303 → k ≠ 4 → iv2 k = iv k) ∧ (∀ k, k ≠ 300 → k ≠ 301 → k ≠ 302 → k ≠ 1 → k ≠ 2 → k ≠ 3 → ar2 k = ar k)
def fR (iw : mI) (aw : mA) (iw2 : mI) (aw2 : mA) : Prop := (∀ k, k ≠ 3 → k ≠ 17 → k ≠ 22 → iw2 k = iw k) ∧ (∀ j, j < 4 ∨ (6 < j ∧ j < 12) ∨ 21 < j → aw2 j = aw j)
theorem fC_t {iv iv1 iv2 : mI} {ar ar1 ar2 : mA} (h : fC iv ar iv1 ar1) (h2 : fC iv1 ar1 iv2 ar2) : fC iv ar iv2 ar2 := ⟨fun k a b => by rw [h2.1 k a b, h.1 k a b], fun k a b c d e f => by rw [h2.2 k a b c d e f, h.2 k a b c d e f]⟩
theorem fR_t {iw iw1 iw2 : mI} {aw aw1 aw2 : mA} (h : fR iw aw iw1 aw1) (h2 : fR iw1 aw1 iw2 aw2) : fR iw aw iw2 aw2 := ⟨fun k a b c => by rw [h2.1 k a b c, h.1 k a b c], fun j a => by rw [h2.2 j a, h.2 j a]⟩
/-- how a joining ends, on both sides -/
def jEnd (f n : Nat) (kd lb : Nat → Nat) (pt : Nat → Nat → Nat) (th ta tb : Nat → Nat) (x : Int32) (C : Option (Int32 × mI × mA × mL × mA × mA)) (R : Option (Int32 × mI × mA)) (iv : mI) (ar : mA) (la : mL) (pA pB : mA) (iw : mI) (aw : mA) : Prop :=
  (∃ (n2 : Nat) (th2 ta2 tb2 P2 : Nat → Nat) (rs2 : Nat → Nat → Nat) (iv2 : mI) (ar2 : mA) (iw2 : mI) (aw2 : mA), C = some (x, iv2, ar2, la, pA, pB) ∧ R = some (x, iw2, aw2) ∧ jG f n2 kd lb pt th2 ta2 tb2 P2 rs2 [] ∧ jC f n2 kd lb pt th2 ta2 tb2 P2 P2 rs2 [] iv2 ar2 ∧ jR f n2 kd lb pt th2 ta2 tb2 P2 rs2 [] iw2 aw2 ∧ n ≤ n2 ∧ (∀ m, m < n → th2 m = th m ∧ ta2 m = ta m ∧ tb2 m = tb m) ∧ fC iv ar iv2 ar2 ∧ fR iw aw iw2 aw2) ∨
  (∃ (iv2 : mI) (ar2 : mA) (iw2 : mI) (aw2 : mA), C = some (m3, iv2, ar2, la, pA, pB) ∧ R = some (m3, iw2, aw2) ∧ cG f kd lb pt iv2 ar2 ∧ rG f kd lb pt iw2 aw2 ∧ fC iv ar iv2 ar2 ∧ fR iw aw iw2 aw2)
theorem jEnd_t {f n n1 : Nat} {kd lb : Nat → Nat} {pt : Nat → Nat → Nat} {th ta tb th1 ta1 tb1 : Nat → Nat} {x : Int32} {C : Option (Int32 × mI × mA × mL × mA × mA)} {R : Option (Int32 × mI × mA)} {iv iv1 : mI} {ar ar1 : mA} {la : mL} {pA pB : mA} {iw iw1 : mI} {aw aw1 : mA} (hn : n ≤ n1) (ht : ∀ m, m < n → th1 m = th m ∧ ta1 m = ta m ∧ tb1 m = tb m) (hc : fC iv ar iv1 ar1) (hr : fR iw aw iw1 aw1) (h : jEnd f n1 kd lb pt th1 ta1 tb1 x C R iv1 ar1 la pA pB iw1 aw1) : jEnd f n kd lb pt th ta tb x C R iv ar la pA pB iw aw := by
  rcases h with ⟨n2, th2, ta2, tb2, P2, rs2, iv2, ar2, iw2, aw2, h1, h2, h3, h4, h5, h6, h7, h8, h9⟩ | ⟨iv2, ar2, iw2, aw2, h1, h2, h3, h4, h8, h9⟩
  · refine Or.inl ⟨n2, th2, ta2, tb2, P2, rs2, iv2, ar2, iw2, aw2, h1, h2, h3, h4, h5, by omega, fun m hm => ?_, fC_t hc h8, fR_t hr h9⟩
    obtain ⟨a1, a2, a3⟩ := h7 m (by omega)
    obtain ⟨b1, b2, b3⟩ := ht m hm
    exact ⟨by rw [a1, b1], by rw [a2, b2], by rw [a3, b3]⟩
  · exact Or.inr ⟨iv2, ar2, iw2, aw2, h1, h2, h3, h4, fC_t hc h8, fR_t hr h9⟩
