/-- the reference holds the term that is done -/
def tDo (m : Nat) (T : TT) (aw : mA) : Prop := ∀ k, k < m → (aw 40 k = nI (tWd T k) ∧ aw 41 k = tF1 T k ∧ aw 42 k = tF2 T k ∧ aw 45 k = nI (tNk T k)) ∧ ∀ i, i < tNk T k → aw 43 (9 * k + i) = nI (tIn T k i) ∧ (tLd T k i → aw 44 (9 * k + i) = nI (tLa T k i))
/-- a term whose types were found -/
def tOk (m : Nat) (T : TT) (g : Nat) (kd lb : Nat → Nat) (pt : Nat → Nat → Nat) (ty va : Nat → Nat) (vis : List Nat) : Prop := (Gr g kd lb pt ∧ g ≤ 200) ∧ 0 ∈ vis ∧ ∀ v, v ∈ vis → v < m ∧ ty v < g ∧ tyR kd lb pt T ty va v (ty v) ∧ (∀ i, i < tNk T v → tIn T v i ∈ vis) ∧ (∀ y, y ∈ tSc T v → y ∈ vis) ∧ ∀ i, i < tNk T v → tBd T v i → va (tIn T v i) < g ∧ vaR kd lb pt T ty va v i
/-- the term in both -/
def rlP (iv : mI) (pA : mA) (iw : mI) (aw : mA) : Prop := (iv 1110 = 0 ∧ iw 30 = 0) ∨ (iv 1110 = 1 ∧ iw 30 = 1 ∧ ∃ (m : Nat) (T : TT) (g0 : Nat) (kd0 lb0 : Nat → Nat) (g : Nat) (kd lb : Nat → Nat) (pt : Nat → Nat → Nat) (ty va : Nat → Nat) (vis : List Nat), tAll g0 kd0 lb0 m T ∧ tPl T 0 = 0 ∧ tCl m T pA ∧ tDo m T aw ∧ tOk m T g kd lb pt ty va vis)
theorem yAll_ok {g0 : Nat} {kd0 lb0 : Nat → Nat} {pt0 : Nat → Nat → Nat} {g : Nat} {kd lb : Nat → Nat} {pt : Nat → Nat → Nat} {m : Nat} {T : TT} {ty va nxf : Nat → Nat} {vis : List Nat} {iv : mI} {ar : mA} {la : mL} {pB : mA} {iw : mI} {aw : mA} (h : yAll g0 kd0 lb0 pt0 g kd lb pt m T ty va nxf vis [] iv ar la pB iw aw) : tOk m T g kd lb pt ty va vis := by
  obtain ⟨⟨hA, -, -, -⟩, ⟨hg, -, -⟩, ⟨hV, -, h0⟩, -⟩ := h
  refine ⟨⟨hg.2.1, hg.1⟩, h0, fun v hv => ?_⟩
  obtain ⟨⟨v1, v2, v3, v4, v5⟩, v6, v7⟩ := hV v hv
  obtain ⟨w1, w2, w3, w4, w5, w6⟩ := v6 (fun hh => by cases hh)
  refine ⟨v1, w2, w5, fun i hi => ?_, v5, fun i hi hb => ?_⟩
  · obtain ⟨j, j1, j2⟩ := tTp_sur hi
    have := v4 j (by omega)
    unfold tKt at this
    rw [j2] at this
    exact this
  · obtain ⟨j, j1, j2⟩ := tTp_sur hi
    rw [← j2] at hb
    obtain ⟨z1, -, z3, -⟩ := v7 j (by omega) hb
    unfold tKt at z1
    rw [j2] at z1 z3
    exact ⟨z1, z3⟩
theorem copy_in {K : Int32 → mI → mA → Option (Int32 × mI × mA)} {iw : mI} {k : Nat} (hk : k < 200) : ∀ (d i N : Nat) (aw : mA), 9 - i = d → i ≤ 9 → d < N → ∃ aw2, mX12_term_L167 K N (nI k) (nI (9 * k + i)) iw aw = K (nI (k + 1)) iw aw2 ∧ (∀ r, r ≠ 43 → r ≠ 44 → aw2 r = aw r) ∧ (∀ p, p < 9 * k + i ∨ 9 * k + 9 ≤ p → aw2 43 p = aw 43 p ∧ aw2 44 p = aw 44 p) ∧ (∀ p, 9 * k + i ≤ p → p < 9 * k + 9 → aw2 43 p = aw 36 p ∧ aw2 44 p = aw 37 p) := by
  intro d
  induction d with
  | zero =>
    intro i N aw hd hi hN
    obtain ⟨N, rfl⟩ : ∃ x, N = x + 1 := ⟨N - 1, by omega⟩
    refine ⟨aw, ?_, fun _ _ _ => rfl, fun _ _ => ⟨rfl, rfl⟩, fun p h1 h2 => by omega⟩
    rw [mX12_term_L167]
    rw [show (9 : Int32) * nI k + 9 = nI (9 * k + 9) by rw [show (9 : Int32) = nI 9 from rfl, nmul, nadd], if_pos (nI_le (show 9 * k + 9 ≤ 9 * k + i by omega) (by omega)), show nI k + 1 = nI (k + 1) from nadd _ 1]
  | succ d ih =>
    intro i N aw hd hi hN
    obtain ⟨N, rfl⟩ : ∃ x, N = x + 1 := ⟨N - 1, by omega⟩
    obtain ⟨aw2, a1, a2, a3, a4⟩ := ih (i + 1) N (au (au aw 43 (9 * k + i) (aw 36 (9 * k + i))) 44 (9 * k + i) (aw 37 (9 * k + i))) (by omega) (by omega) (by omega)
    refine ⟨aw2, ?_, fun r r1 r2 => by rw [a2 r r1 r2, au_ne _ r2, au_ne _ r1], fun p hp => ?_, fun p h1 h2 => ?_⟩
    · rw [← a1]
      conv => lhs; rw [mX12_term_L167]
      rw [show (9 : Int32) * nI k + 9 = nI (9 * k + 9) by rw [show (9 : Int32) = nI 9 from rfl, nmul, nadd], if_neg (nI_ge (show 9 * k + i < 9 * k + 9 by omega) (by omega)), if_neg (by first | exact nI_in (by omega) (by omega) | exact nI_inn (by omega) (by omega)), if_neg (by first | exact nI_in (by omega) (by omega) | exact nI_inn (by omega) (by omega)), if_neg (by first | exact nI_in (by omega) (by omega) | exact nI_inn (by omega) (by omega)), if_neg (by first | exact nI_in (by omega) (by omega) | exact nI_inn (by omega) (by omega)), ncl (by omega), au_ne _ (by decide), show nI (9 * k + i) + 1 = nI (9 * k + (i + 1)) from nadd _ 1]
    · rw [(a3 p (by omega)).1, (a3 p (by omega)).2, au_ne _ (by decide), au_ni _ (by omega), au_ni _ (by omega), au_ne _ (by decide)]
      exact ⟨rfl, rfl⟩
    · by_cases e : p = 9 * k + i
      · rw [(a3 p (by omega)).1, (a3 p (by omega)).2, e, au_ne _ (by decide), au_self, au_self]
        exact ⟨rfl, rfl⟩
      · obtain ⟨b1, b2⟩ := a4 p (by omega) h2
        rw [b1, b2]
        exact ⟨rfl, rfl⟩
theorem copy_out {m : Nat} {iw : mI} (hm : m ≤ 200) (h31 : iw 31 = nI m) : ∀ (d k N : Nat) (aw : mA), m - k = d → k ≤ m → d < N → ∃ aw2, mX12_term_L106 N (nI k) iw aw = some (aw 54 0, iw, aw2) ∧ (∀ r, r < 40 ∨ 45 < r → aw2 r = aw r) ∧ (∀ x, x < k → aw2 40 x = aw 40 x ∧ aw2 41 x = aw 41 x ∧ aw2 42 x = aw 42 x ∧ aw2 45 x = aw 45 x ∧ ∀ i, i < 9 → aw2 43 (9 * x + i) = aw 43 (9 * x + i) ∧ aw2 44 (9 * x + i) = aw 44 (9 * x + i)) ∧ (∀ x, k ≤ x → x < m → aw2 40 x = aw 32 x ∧ aw2 41 x = aw 34 x ∧ aw2 42 x = aw 35 x ∧ aw2 45 x = aw 38 x ∧ ∀ i, i < 9 → aw2 43 (9 * x + i) = aw 36 (9 * x + i) ∧ aw2 44 (9 * x + i) = aw 37 (9 * x + i)) := by
  intro d
  induction d with
  | zero =>
    intro k N aw hd hk hN
    obtain ⟨N, rfl⟩ : ∃ x, N = x + 1 := ⟨N - 1, by omega⟩
    refine ⟨aw, ?_, fun _ _ => rfl, fun _ _ => ⟨rfl, rfl, rfl, rfl, fun _ _ => ⟨rfl, rfl⟩⟩, fun x h1 h2 => by omega⟩
    rw [mX12_term_L106]
    rw [h31, if_pos (nI_le (show m ≤ k by omega) (by omega)), if_neg (show ¬ ((0 : Int32) < 0 ∨ 200 ≤ (0 : Int32).toNatClampNeg) by decide)]
    rfl
  | succ d ih =>
    intro k N aw hd hk hN
    obtain ⟨N, rfl⟩ : ∃ x, N = x + 1 := ⟨N - 1, by omega⟩
    obtain ⟨F, hF, hFF⟩ : ∃ F, bigF = F + 1 ∧ 5000 < F := ⟨999999, rfl, by omega⟩
    obtain ⟨aw2, a1, a2, a3, a4⟩ := copy_in (K := mX12_term_L106 N) (iw := iw) (show k < 200 by omega) 9 0 bigF (au (au (au (au aw 40 k (aw 32 k)) 41 k (aw 34 k)) 42 k (aw 35 k)) 45 k (aw 38 k)) (by omega) (by omega) (by omega)
    obtain ⟨aw3, b1, b2, b3, b4⟩ := ih (k + 1) N aw2 (by omega) (by omega) (by omega)
    have e54 : aw2 54 0 = aw 54 0 := by rw [a2 54 (by decide) (by decide)]; rfl
    refine ⟨aw3, ?_, fun r hr => by rw [b2 r hr, a2 r (by omega) (by omega), au_ne _ (by omega), au_ne _ (by omega), au_ne _ (by omega), au_ne _ (by omega)], fun x hx => ?_, fun x h1 h2 => ?_⟩
    · rw [← e54, ← b1, ← a1]
      conv => lhs; rw [mX12_term_L106]
      rw [h31, if_neg (nI_ge (show k < m by omega) (by omega)), if_neg (by first | exact nI_in (by omega) (by omega) | exact nI_inn (by omega) (by omega)), if_neg (by first | exact nI_in (by omega) (by omega) | exact nI_inn (by omega) (by omega)), if_neg (by first | exact nI_in (by omega) (by omega) | exact nI_inn (by omega) (by omega)), if_neg (by first | exact nI_in (by omega) (by omega) | exact nI_inn (by omega) (by omega)), if_neg (by first | exact nI_in (by omega) (by omega) | exact nI_inn (by omega) (by omega)), if_neg (by first | exact nI_in (by omega) (by omega) | exact nI_inn (by omega) (by omega)), if_neg (by first | exact nI_in (by omega) (by omega) | exact nI_inn (by omega) (by omega)), if_neg (by first | exact nI_in (by omega) (by omega) | exact nI_inn (by omega) (by omega)), ncl (by omega), show (9 : Int32) * nI k = nI (9 * k + 0) by rw [show (9 : Int32) = nI 9 from rfl, nmul]; rfl]
      rfl
    · obtain ⟨c1, c2, c3, c4, c5⟩ := b3 x (by omega)
      rw [c1, c2, c3, c4, a2 40 (by decide) (by decide), a2 41 (by decide) (by decide), a2 42 (by decide) (by decide), a2 45 (by decide) (by decide)]
      refine ⟨by simp [aur, show ¬ x = k by omega], by simp [aur, show ¬ x = k by omega], by simp [aur, show ¬ x = k by omega], by simp [aur, show ¬ x = k by omega], fun i hi => ?_⟩
      rw [(c5 i hi).1, (c5 i hi).2, (a3 _ (by omega)).1, (a3 _ (by omega)).2]
      exact ⟨rfl, rfl⟩
    · by_cases e : x = k
      · subst e
        obtain ⟨c1, c2, c3, c4, c5⟩ := b3 x (by omega)
        rw [c1, c2, c3, c4, a2 40 (by decide) (by decide), a2 41 (by decide) (by decide), a2 42 (by decide) (by decide), a2 45 (by decide) (by decide)]
        refine ⟨by simp [aur], by simp [aur], by simp [aur], by simp [aur], fun i hi => ?_⟩
        rw [(c5 i hi).1, (c5 i hi).2, (a4 _ (by omega) (by omega)).1, (a4 _ (by omega) (by omega)).2]
        exact ⟨rfl, rfl⟩
      · obtain ⟨c1, c2, c3, c4, c5⟩ := b4 x (by omega) h2
        have k2 : ∀ r, r ≠ 40 → r ≠ 41 → r ≠ 42 → r ≠ 45 → r ≠ 43 → r ≠ 44 → aw2 r = aw r := fun r r1 r2 r3 r4 r5 r6 => by rw [a2 r r5 r6, au_ne _ r4, au_ne _ r3, au_ne _ r2, au_ne _ r1]
        rw [c1, c2, c3, c4, k2 32 (by decide) (by decide) (by decide) (by decide) (by decide) (by decide), k2 34 (by decide) (by decide) (by decide) (by decide) (by decide) (by decide), k2 35 (by decide) (by decide) (by decide) (by decide) (by decide) (by decide), k2 38 (by decide) (by decide) (by decide) (by decide) (by decide) (by decide)]
        refine ⟨rfl, rfl, rfl, rfl, fun i hi => ?_⟩
        rw [(c5 i hi).1, (c5 i hi).2, k2 36 (by decide) (by decide) (by decide) (by decide) (by decide) (by decide), k2 37 (by decide) (by decide) (by decide) (by decide) (by decide) (by decide)]
        exact ⟨rfl, rfl⟩
/-- the nodes of before in a graph that has grown -/
theorem cG_sub {f g : Nat} {kd lb kd2 lb2 : Nat → Nat} {pt pt2 : Nat → Nat → Nat} {iv iv2 : mI} {ar : mA} (hg : grow f kd lb pt g kd2 lb2 pt2) (h : cG g kd2 lb2 pt2 iv ar) (h2 : iv2 303 = nI f) : cG f kd lb pt iv2 ar := by
  refine ⟨h2, fun k hk => ?_⟩
  obtain ⟨a1, a2, a3⟩ := h.2 k (Nat.lt_of_lt_of_le hk hg.1)
  obtain ⟨b1, b2, b3⟩ := hg.2.2 k hk
  exact ⟨by rw [← b1]; exact a1, by rw [← b2]; exact a2, fun l hl hb => by rw [← b3]; exact a3 l hl (by rw [b2]; exact hb)⟩
theorem rG_sub {f g : Nat} {kd lb kd2 lb2 : Nat → Nat} {pt pt2 : Nat → Nat → Nat} {iv iv2 : mI} {ar : mA} (hg : grow f kd lb pt g kd2 lb2 pt2) (h : rG g kd2 lb2 pt2 iv ar) (h2 : iv2 3 = nI f) : rG f kd lb pt iv2 ar := by
  refine ⟨h2, fun k hk => ?_⟩
  obtain ⟨a1, a2, a3⟩ := h.2 k (Nat.lt_of_lt_of_le hk hg.1)
  obtain ⟨b1, b2, b3⟩ := hg.2.2 k hk
  exact ⟨by rw [← b1]; exact a1, by rw [← b2]; exact a2, fun l hl hb => by rw [← b3]; exact a3 l hl (by rw [b2]; exact hb)⟩
