/-- the search's memory and what it knows -/
def oA (kd lb : Nat → Nat) (pt : Nat → Nat → Nat) (a b : Nat) (m : Nat) (qa qb ql qf : Nat → Nat) (W : Nat → List Nat) (h lc : Nat) (iv : mI) (la : mL) : Prop := oQ m qa qb ql qf iv la ∧ oS m qa qb la ∧ oD m qa qb ∧ bI kd lb pt a b m qa qb ql qf W h lc
theorem parts_loop {g : Nat} {kd lb : Nat → Nat} {pt : Nat → Nat → Nat} {ar : mA} {pA pB : mA} (hg : g ≤ 200) (hG : Gr g kd lb pt) {a b : Nat} {h x y : Nat} (hx : x < g) (hy : y < g) (hfit : fitB kd lb x y = true) : ∀ (n lc m : Nat) (qa qb ql qf : Nat → Nat) (W : Nat → List Nat) (iv : mI) (la : mL), 8 < lc + n → lc ≤ 8 → cG g kd lb pt iv ar → oA kd lb pt a b m qa qb ql qf W h lc iv la → h < m → qa h = x → qb h = y →
    ∃ (m2 : Nat) (qa2 qb2 ql2 qf2 : Nat → Nat) (W2 : Nat → List Nat) (iv2 : mI) (la2 : mL), mX5_enterParts_L3 n (nI x) (nI y) (nI h) (nI lc) iv ar la pA pB = some (0, iv2, ar, la2, pA, pB) ∧ (∀ k, k ≠ 503 → iv2 k = iv k) ∧ (∀ k, k ≠ 501 → k ≠ 502 → la2 k = la k) ∧ oA kd lb pt a b m2 qa2 qb2 ql2 qf2 W2 h 8 iv2 la2 ∧ h < m2 ∧ qa2 h = x ∧ qb2 h = y := by
  intro n
  induction n with
  | zero => intro lc m qa qb ql qf W iv la h1 h2; omega
  | succ n ih =>
    intro lc m qa qb ql qf W iv la h1 h2 hc hA hh ex ey
    unfold mX5_enterParts_L3
    by_cases h8 : lc = 8
    · subst h8
      refine ⟨m, qa, qb, ql, qf, W, iv, la, ?_, fun _ _ => rfl, fun _ _ _ => rfl, hA, hh, ex, ey⟩
      simp (disch := omega) only [Nat.le_refl, bitn, bitn0, bit1n, ↓e_m1, ↓e_m2, ↓e_m3, ↓e_m11, ↓e_m12, ↓e_m13, ↓e_m14, ↓e_m15, ↓e_m16, nlit, nle, nlt, neq, ncl, nadd, nmul, obe, obce, upr, aur, m1ne, m1ne2, m1lt, m1le, m1nle, m1nlt, if_pos, if_neg, false_or, or_false, or_self, true_or, or_true, if_true, if_false, ite_true, ite_false, reduceIte, reduceCtorEq, Nat.not_lt_zero, Nat.zero_le, Option.some.injEq, Prod.mk.injEq]
    · have hlt : lc < 8 := by omega
      have hxb := fun k hk => (hG k hk).2.1
      obtain ⟨hQ, hS, hD, hB⟩ := hA
      rw [show (8 : Int32) = nI 8 from rfl, show (4 : Int32) = nI 4 from rfl, show (0 : Int32) = nI 0 from rfl]
      simp only [c_partOf (by omega) hxb hc hx (show lc < 2147483648 by omega), c_partOf (by omega) hxb hc hy (show lc < 2147483648 by omega), c_kindOf (by omega) hc hx, obce]
      rw [if_neg (by rw [nle (by omega) (by omega)]; omega)]
      by_cases hw : wl lb x y lc = true
      · have hw2 := hw
        unfold wl at hw2
        rw [Bool.and_eq_true] at hw2
        have px := (hG x hx).2.2.2.2 lc hlt hw2.1
        have py := (hG y hy).2.2.2.2 lc hlt hw2.2
        have kx := (hG x hx).1
        -- the entry that is made or found
        have hgo : ∃ (m2 : Nat) (qa2 qb2 ql2 qf2 : Nat → Nat) (W2 : Nat → List Nat) (iv2 : mI) (la2 : mL), mX5_enter (nI (nxA kd pt x y lc)) (nI (nxB kd pt x y lc)) (nI lc) (nI h) iv ar la pA pB = some (0, iv2, ar, la2, pA, pB) ∧ (∀ k, k ≠ 503 → iv2 k = iv k) ∧ (∀ k, k ≠ 501 → k ≠ 502 → la2 k = la k) ∧ oA kd lb pt a b m2 qa2 qb2 ql2 qf2 W2 h (lc + 1) iv2 la2 ∧ h < m2 ∧ qa2 h = x ∧ qb2 h = y := by
          have hA1 : nxA kd pt x y lc < 200 := by unfold nxA; split <;> omega
          have hB1 : nxB kd pt x y lc < 200 := by unfold nxB; split <;> omega
          have hm := hQ.1
          rcases c_enter hQ hS hD (ar := ar) (pA := pA) (pB := pB) hA1 hB1 hlt (show h < 40000 by omega) with ⟨⟨e, he, e1, e2⟩, h3⟩ | ⟨-, la2, h3, h4, h5, h6, h7⟩
          · refine ⟨m, qa, qb, ql, qf, W, iv, la, h3, fun _ _ => rfl, fun _ _ _ => rfl, ⟨hQ, hS, hD, ?_⟩, hh, ex, ey⟩
            exact bI_old hB hh he (by rw [e1, ex, ey]) (by rw [e2, ex, ey])
          · have hhm : ¬ h = m := by omega
            refine ⟨m + 1, _, _, _, _, va_up W m (W h ++ [lc]), _, la2, h3, fun k hk => va_up_ne _ _ hk, h4, ⟨h5, h6, h7, ?_⟩, by omega, by simp only [upr, hhm, if_false]; exact ex, by simp only [upr, hhm, if_false]; exact ey⟩
            have := bI_new hB hh hlt (by rw [ex, ey]; exact hfit) (by rw [ex, ey]; exact hw)
            rw [ex, ey] at this
            exact this
        obtain ⟨m2, qa2, qb2, ql2, qf2, W2, iv2, la2, he, hi2, hl2, hA2, hh2, ex2, ey2⟩ := hgo
        have hc2 : cG g kd lb pt iv2 ar := ⟨by rw [hi2 303 (by decide)]; exact hc.1, hc.2⟩
        obtain ⟨m3, qa3, qb3, ql3, qf3, W3, iv3, la3, r1, r2, r3, r4, r5⟩ := ih (lc + 1) m2 qa2 qb2 ql2 qf2 W2 iv2 la2 (by omega) (by omega) hc2 hA2 hh2 ex2 ey2
        refine ⟨m3, qa3, qb3, ql3, qf3, W3, iv3, la3, ?_, fun k hk => (r2 k hk).trans (hi2 k hk), fun k k1 k2 => (r3 k k1 k2).trans (hl2 k k1 k2), r4, r5⟩
        have hpx : (if lc < 8 ∧ (lb x).testBit lc = true then nI (pt x lc) else m1) = nI (pt x lc) := if_pos ⟨hlt, hw2.1⟩
        have hpy : (if lc < 8 ∧ (lb y).testBit lc = true then nI (pt y lc) else m1) = nI (pt y lc) := if_pos ⟨hlt, hw2.2⟩
        rw [hpx, hpy]
        unfold nxA nxB at he
        by_cases ek : kd x = 4
        · by_cases el : lc = 0
          · rw [if_pos ⟨ek, el⟩, if_pos ⟨ek, el⟩] at he
            subst el
            rw [Nat.zero_add] at r1
            simp (disch := omega) only [ek, mX5_enterParts_J56, mX5_enterParts_J83, he, r1, bitn, bitn0, bit1n, ↓e_m1, ↓e_m2, ↓e_m3, ↓e_m11, ↓e_m12, ↓e_m13, ↓e_m14, ↓e_m15, ↓e_m16, nlit, nle, nlt, neq, ncl, nadd, nmul, obe, obce, upr, aur, m1ne, m1ne2, m1lt, m1le, m1nle, m1nlt, if_pos, if_neg, false_or, or_false, or_self, true_or, or_true, if_true, if_false, ite_true, ite_false, reduceIte, reduceCtorEq, Nat.not_lt_zero, Nat.zero_le, Option.some.injEq, Prod.mk.injEq]
          · rw [if_neg (fun q => el q.2), if_neg (fun q => el q.2)] at he
            simp (disch := omega) only [ek, el, mX5_enterParts_J56, mX5_enterParts_J83, he, r1, bitn, bitn0, bit1n, ↓e_m1, ↓e_m2, ↓e_m3, ↓e_m11, ↓e_m12, ↓e_m13, ↓e_m14, ↓e_m15, ↓e_m16, nlit, nle, nlt, neq, ncl, nadd, nmul, obe, obce, upr, aur, m1ne, m1ne2, m1lt, m1le, m1nle, m1nlt, if_pos, if_neg, false_or, or_false, or_self, true_or, or_true, if_true, if_false, ite_true, ite_false, reduceIte, reduceCtorEq, Nat.not_lt_zero, Nat.zero_le, Option.some.injEq, Prod.mk.injEq]
        · rw [if_neg (fun q => ek q.1), if_neg (fun q => ek q.1)] at he
          simp (disch := omega) only [ek, mX5_enterParts_J56, mX5_enterParts_J83, he, r1, ite_self, bitn, bitn0, bit1n, ↓e_m1, ↓e_m2, ↓e_m3, ↓e_m11, ↓e_m12, ↓e_m13, ↓e_m14, ↓e_m15, ↓e_m16, nlit, nle, nlt, neq, ncl, nadd, nmul, obe, obce, upr, aur, m1ne, m1ne2, m1lt, m1le, m1nle, m1nlt, if_pos, if_neg, false_or, or_false, or_self, true_or, or_true, if_true, if_false, ite_true, ite_false, reduceIte, reduceCtorEq, Nat.not_lt_zero, Nat.zero_le, Option.some.injEq, Prod.mk.injEq]
      · have hwf : wl lb x y lc = false := by cases hq : wl lb x y lc with
          | true => exact absurd hq hw
          | false => rfl
        have hB2 := bI_skip hB (by rw [ex, ey]; exact hwf)
        obtain ⟨m3, qa3, qb3, ql3, qf3, W3, iv3, la3, r1, r2, r3, r4, r5⟩ := ih (lc + 1) m qa qb ql qf W iv la (by omega) (by omega) hc ⟨hQ, hS, hD, hB2⟩ hh ex ey
        refine ⟨m3, qa3, qb3, ql3, qf3, W3, iv3, la3, ?_, r2, r3, r4, r5⟩
        have kx := (hG x hx).1
        have key : ∀ s0 : Int32, mX5_enterParts_J56 (mX5_enterParts_L3 n) (nI x) (nI y) (nI h) (nI lc) (if lc < 8 ∧ (lb x).testBit lc = true then nI (pt x lc) else m1) (if lc < 8 ∧ (lb y).testBit lc = true then nI (pt y lc) else m1) s0 iv ar la pA pB = some (0, iv3, ar, la3, pA, pB) := by
          intro s0
          unfold mX5_enterParts_J56
          unfold wl at hwf
          rw [Bool.and_eq_false_iff] at hwf
          have r1' : mX5_enterParts_L3 n (nI x) (nI y) (nI h) (nI lc + 1) iv ar la pA pB = some (0, iv3, ar, la3, pA, pB) := by
            rw [show (1 : Int32) = nI 1 from rfl, nadd]; exact r1
          rcases hwf with q | q
          · have hpx : (if lc < 8 ∧ (lb x).testBit lc = true then nI (pt x lc) else m1) = m1 := if_neg (fun z => by rw [q] at z; exact absurd z.2 (by decide))
            rw [hpx, if_pos (show m1 = -1 from rfl)]
            exact r1'
          · have hpy : (if lc < 8 ∧ (lb y).testBit lc = true then nI (pt y lc) else m1) = m1 := if_neg (fun z => by rw [q] at z; exact absurd z.2 (by decide))
            rw [hpy, if_pos (show m1 = -1 from rfl)]
            by_cases e5 : (if lc < 8 ∧ (lb x).testBit lc = true then nI (pt x lc) else m1) = -1
            · rw [if_pos e5]; exact r1'
            · rw [if_neg e5]; exact r1'
        simp only [key, ite_self]
        rfl
