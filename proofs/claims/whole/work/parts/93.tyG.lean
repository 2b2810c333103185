section
variable {g0 : Nat} {kd0 lb0 : Nat → Nat} {g : Nat} {kd lb : Nat → Nat} {pt : Nat → Nat → Nat} {m : Nat} {T : TT} {ty va : Nat → Nat} {k : Nat} {iv : mI} {ar : mA} {la : mL} {pA pB : mA} {iw : mI} {aw : mA}
theorem labs_lt (hA : tAll g0 kd0 lb0 m T) (hk : k < m) (hw : tWd T k = 29) : ∀ (i j : Nat), i < tNk T k → j < i → tLa T k j < tLa T k i
  | 0, j, _, hj => absurd hj (Nat.not_lt_zero j)
  | i + 1, j, hi, hj => by
    have h1 := ((((hA.2.2 k hk).2.2 (i + 1) (by rw [tAll_mn hA hk]; exact hi)).2.2.1 (Or.inl hw)).2 (by omega))
    rw [Nat.add_sub_cancel] at h1
    by_cases e : j = i
    · rw [e]; exact h1
    · have := labs_lt hA hk hw i j (by omega) (by omega)
      omega
/-- a record's parts up to the i-th -/
def gaI (T : TT) (ty : Nat → Nat) (k g i L : Nat) (arN awN ar aw : mA) : Prop := (L < 256 ∧ ar 301 g = nI L ∧ aw 5 g = nI L ∧ (∀ l, l < 8 → (L.testBit l = true ↔ ∃ j, j < i ∧ tLa T k j = l)) ∧ (∀ j, j < i → ar 302 (g * 8 + tLa T k j) = nI (ty (tIn T k j)) ∧ aw 6 (8 * g + tLa T k j) = nI (ty (tIn T k j)))) ∧ ((∀ r, r ≠ 301 → r ≠ 302 → ar r = arN r) ∧ (∀ x, x ≠ g → ar 301 x = arN 301 x) ∧ (∀ p, p < 8 * g ∨ 8 * g + 8 ≤ p → ar 302 p = arN 302 p)) ∧ ((∀ r, r ≠ 5 → r ≠ 6 → aw r = awN r) ∧ (∀ x, x ≠ g → aw 5 x = awN 5 x) ∧ (∀ p, p < 8 * g ∨ 8 * g + 8 ≤ p → aw 6 p = awN 6 p))
theorem gather_loop {arN awN : mA} (hA : tAll g0 kd0 lb0 m T) (hcl : tCl m T pB) (hre : tRe m T awN) (hk : k < m) (hw : tWd T k = 29) (hg : g < 200) (h303 : iv 303 = nI (g + 1)) (h24 : iw 24 = 0) (hkid : ∀ i, i < tNk T k → arN 204 (tPl T (tIn T k i)) = nI (ty (tIn T k i)) ∧ awN 54 (tIn T k i) = nI (ty (tIn T k i))) : ∀ (d i L : Nat) (ar aw : mA) (n1 n2 : Nat), tNk T k - i = d → i ≤ tNk T k → d < n1 → d < n2 → gaI T ty k g i L arN awN ar aw → ∃ (L2 : Nat) (ar2 aw2 : mA), mX2_typeOfGather_L11 n1 (nI (tPl T k)) (nI g) (nI i) iv ar la pA pB = some (nI g, iv, ar2, la, pA, pB) ∧ mX12_typeRecord_L8 n2 (nI k) (nI g) (nI i) iw aw = some (nI g, iw, aw2) ∧ gaI T ty k g (tNk T k) L2 arN awN ar2 aw2 := by
  have h9 := hOK9 (hA.2.2 k hk).1.1
  have hk2 : k < 200 := Nat.lt_of_lt_of_le hk hA.2.1
  intro d
  induction d with
  | zero =>
    intro i L ar aw n1 n2 hd hi hn1 hn2 hI
    have : i = tNk T k := by omega
    subst this
    obtain ⟨n1, rfl⟩ : ∃ x, n1 = x + 1 := ⟨n1 - 1, by omega⟩
    obtain ⟨n2, rfl⟩ : ∃ x, n2 = x + 1 := ⟨n2 - 1, by omega⟩
    refine ⟨L, ar, aw, ?_, ?_, hI⟩
    · rw [mX2_typeOfGather_L11]
      rw [c_count hA hcl hk, obce, if_pos (nI_le (Nat.le_refl _) (by omega))]
    · rw [mX12_typeRecord_L8]
      rw [if_neg (by first | exact nI_in (by omega) (by omega) | exact nI_inn (by omega) (by omega)), ncl (by omega), hI.2.2.1 38 (by decide) (by decide), (hre k hk).1.2.2.2.2, tAll_mn hA hk, if_pos (nI_le (Nat.le_refl _) (by omega))]
  | succ d ih =>
    intro i L ar aw n1 n2 hd hi hn1 hn2 hI
    obtain ⟨n1, rfl⟩ : ∃ x, n1 = x + 1 := ⟨n1 - 1, by omega⟩
    obtain ⟨n2, rfl⟩ : ∃ x, n2 = x + 1 := ⟨n2 - 1, by omega⟩
    have hiN : i < tNk T k := by omega
    have hld : tLd T k i := Or.inl hw
    have hl8 := (((hA.2.2 k hk).2.2 i (by rw [tAll_mn hA hk]; exact hiN)).2.2.1 hld).1
    have h2 : 2 ^ tLa T k i < 256 := Nat.pow_lt_pow_right (m := tLa T k i) (n := 8) (by decide) hl8
    obtain ⟨⟨i1, i2, i3, i4, i5⟩, ⟨i6, i7, i8⟩, ⟨i9, i10, i11⟩⟩ := hI
    obtain ⟨t2, t3⟩ := hkid i hiN
    have hre1 : tRe m T (au aw 5 g (nI (L ||| 2 ^ tLa T k i))) := by
      unfold tRe
      rw [au_ne _ (by decide), au_ne _ (by decide), au_ne _ (by decide), au_ne _ (by decide), au_ne _ (by decide), au_ne _ (by decide), au_ne _ (by decide), i9 32 (by decide) (by decide), i9 33 (by decide) (by decide), i9 34 (by decide) (by decide), i9 35 (by decide) (by decide), i9 38 (by decide) (by decide), i9 36 (by decide) (by decide), i9 37 (by decide) (by decide)]
      exact hre
    have eC : mX2_typeOfGather_L11 (n1 + 1) (nI (tPl T k)) (nI g) (nI i) iv ar la pA pB = mX2_typeOfGather_L11 n1 (nI (tPl T k)) (nI g) (nI (i + 1)) iv (au (au ar 301 g (nI (L ||| 2 ^ tLa T k i))) 302 (g * 8 + tLa T k i) (nI (ty (tIn T k i)))) la pA pB := by
      conv => lhs; rw [mX2_typeOfGather_L11]
      rw [c_count hA hcl hk, obce, if_neg (nI_ge hiN (by omega)), c_kid hA hcl hk hiN, obce, c_labelOf hA hcl hk hiN hld, obce, c_typeIn hA hcl hk hiN (by rw [i6 204 (by decide) (by decide)]; exact t2), obce, c_setP h303 (by omega) (by omega) hl8 _ i2 i1, obce, show nI i + 1 = nI (i + 1) from nadd _ 1]
    have eR : mX12_typeRecord_L8 (n2 + 1) (nI k) (nI g) (nI i) iw aw = mX12_typeRecord_L8 n2 (nI k) (nI g) (nI (i + 1)) iw (au (au aw 5 g (nI (L ||| 2 ^ tLa T k i))) 6 (8 * g + tLa T k i) (nI (ty (tIn T k i)))) := by
      conv => lhs; rw [mX12_typeRecord_L8]
      rw [if_neg (by first | exact nI_in (by omega) (by omega) | exact nI_inn (by omega) (by omega)), ncl (show k < 2147483648 by omega), i9 38 (by decide) (by decide), (hre k hk).1.2.2.2.2, tAll_mn hA hk, if_neg (nI_ge hiN (by omega)), if_pos h24, show (9 : Int32) * nI k + nI i = nI (9 * k + i) by rw [show (9 : Int32) = nI 9 from rfl, nmul, nadd], if_neg (by first | exact nI_in (by omega) (by omega) | exact nI_inn (by omega) (by omega)), ncl (show 9 * k + i < 2147483648 by omega), i9 37 (by decide) (by decide), ((hre k hk).2 i (by rw [tAll_mn hA hk]; exact hiN)).2 hld, if_neg (by first | exact nI_in (by omega) (by omega) | exact nI_inn (by omega) (by omega)), if_neg (by first | exact nI_in (by omega) (by omega) | exact nI_inn (by omega) (by omega)), ncl (show g < 2147483648 by omega), i3, bit_1 hl8, nor_ i1 h2, r_tin hA hre1 hk hiN (by rw [au_ne _ (by decide), i9 54 (by decide) (by decide)]; exact t3), obe, show (8 : Int32) * nI g + nI (tLa T k i) = nI (8 * g + tLa T k i) by rw [show (8 : Int32) = nI 8 from rfl, nmul, nadd], if_neg (by first | exact nI_in (by omega) (by omega) | exact nI_inn (by omega) (by omega)), ncl (by omega), show nI i + 1 = nI (i + 1) from nadd _ 1]
    rw [eC, eR]
    refine ih (i + 1) (L ||| 2 ^ tLa T k i) _ _ n1 n2 (by omega) (by omega) (by omega) (by omega) ⟨⟨Nat.or_lt_two_pow (n := 8) i1 h2, by rw [au_ne _ (by decide), au_self], by rw [au_ne _ (by decide), au_self], fun l hl => ?_, fun j hj => ?_⟩, ⟨fun r a b => by rw [au_ne _ b, au_ne _ a, i6 r a b], fun x hx => by rw [au_ne _ (by decide), au_ni _ hx, i7 x hx], fun p hp => by rw [au_ni _ (by omega), au_ne _ (by decide), i8 p hp]⟩, ⟨fun r a b => by rw [au_ne _ b, au_ne _ a, i9 r a b], fun x hx => by rw [au_ne _ (by decide), au_ni _ hx, i10 x hx], fun p hp => by rw [au_ni _ (by omega), au_ne _ (by decide), i11 p hp]⟩⟩
    · rw [or_bit, i4 l hl]
      constructor
      · rintro (⟨j, j1, j2⟩ | rfl)
        · exact ⟨j, by omega, j2⟩
        · exact ⟨i, by omega, rfl⟩
      · rintro ⟨j, j1, j2⟩
        by_cases ej : j = i
        · exact Or.inr (by rw [← j2, ej])
        · exact Or.inl ⟨j, by omega, j2⟩
    · by_cases ej : j = i
      · subst ej
        exact ⟨au_self _ _ _ _, au_self _ _ _ _⟩
      · have hlt := labs_lt hA hk hw i j hiN (by omega)
        rw [au_ni _ (by omega), au_ne _ (by decide), au_ni _ (by omega), au_ne _ (by decide)]
        exact i5 j (by omega)
theorem gather_full (hA : tAll g0 kd0 lb0 m T) (hcl : tCl m T pB) (hk : k < m) (hw : tWd T k = 29) (hkid : ∀ i, i < tNk T k → ar 204 (tPl T (tIn T k i)) = nI (ty (tIn T k i))) : ∀ (d i n1 : Nat), tNk T k - i = d → i ≤ tNk T k → d < n1 → mX2_typeOfGather_L11 n1 (nI (tPl T k)) m3 (nI i) iv ar la pA pB = some (m3, iv, ar, la, pA, pB) := by
  have h9 := hOK9 (hA.2.2 k hk).1.1
  intro d
  induction d with
  | zero =>
    intro i n1 hd hi hn1
    have : i = tNk T k := by omega
    subst this
    obtain ⟨n1, rfl⟩ : ∃ x, n1 = x + 1 := ⟨n1 - 1, by omega⟩
    rw [mX2_typeOfGather_L11]
    rw [c_count hA hcl hk, obce, if_pos (nI_le (Nat.le_refl _) (by omega))]
  | succ d ih =>
    intro i n1 hd hi hn1
    obtain ⟨n1, rfl⟩ : ∃ x, n1 = x + 1 := ⟨n1 - 1, by omega⟩
    have hiN : i < tNk T k := by omega
    have sn : ∀ l v : Int32, mX3_setPart m3 l v iv ar la pA pB = some (0, iv, ar, la, pA, pB) := fun l v => by
      unfold mX3_setPart
      rw [if_pos (show m3 < 0 by decide)]
    rw [mX2_typeOfGather_L11]
    rw [c_count hA hcl hk, obce, if_neg (nI_ge hiN (by omega)), c_kid hA hcl hk hiN, obce, c_labelOf hA hcl hk hiN (Or.inl hw), obce, c_typeIn hA hcl hk hiN (hkid i hiN), obce, sn, obce, show nI i + 1 = nI (i + 1) from nadd _ 1]
    exact ih (i + 1) n1 (by omega) (by omega) (by omega)
theorem ty29 (h : kAll g0 kd0 lb0 g kd lb pt m T ty va k iv ar la pB iw aw) (e : tWd T k = 29) (b : Int32) : dOut g kd lb pt T ty va k iv ar pA pB iw aw (mX2_typeOf (nI (tPl T k)) iv ar la pA pB) (mX12_typeDone (nI k) b iw aw) := by
  obtain ⟨h1, h2, h3⟩ := hw_of (pA := pA) h e
  obtain ⟨⟨hA, hG0⟩, ⟨hcl, hre, hk⟩, ⟨hg, h24⟩, hkid, hsc, hbd⟩ := id h
  obtain ⟨F, hF, hFF⟩ : ∃ F, bigF = F + 1 ∧ 5000 < F := ⟨999999, rfl, by omega⟩
  have h9 := hOK9 (hA.2.2 k hk).1.1
  have hg200 := hg.1
  obtain ⟨aw2, a1, a2, a3, a4, a5, a6⟩ := r_more (aw := aw) (K := 5) hg.2.2.2.1.1 hg.1 (by omega) h24
  have a1' : mX12_more 5 iw aw = if g < 200 then some (nI g, va_up iw 3 (nI (g + 1)), aw2) else some (0, va_up iw 24 m3, aw) := a1
  have c1' : mX3_make 5 iv ar la pA pB = if g < 200 then some (nI g, va_up iv 303 (nI (g + 1)), au (au ar 300 g (nI 5)) 301 g (nI 0), la, pA, pB) else some (m3, iv, ar, la, pA, pB) := c_make2 hg.2.2.1.1 hg.1
  rw [tof29 h1, tdn29 h3 h2, obc_id, ob_id]
  unfold mX2_typeOfGather mX12_typeRecord
  rw [c1', a1']
  by_cases q : g < 200
  · rw [if_pos q, if_pos q, obce, obe]
    have hre2 : tRe m T aw2 := by
      unfold tRe
      rw [a2 32 (by decide) (by decide) (by decide), a2 33 (by decide) (by decide) (by decide), a2 34 (by decide) (by decide) (by decide), a2 35 (by decide) (by decide) (by decide), a2 38 (by decide) (by decide) (by decide), a2 36 (by decide) (by decide) (by decide), a2 37 (by decide) (by decide) (by decide)]
      exact hre
    obtain ⟨L, ar3, aw3, q1, q2, ⟨⟨i1, i2, i3, i4, i5⟩, ⟨i6, i7, i8⟩, ⟨i9, i10, i11⟩⟩⟩ := gather_loop (ty := ty) (iv := va_up iv 303 (nI (g + 1))) (iw := va_up iw 3 (nI (g + 1))) (la := la) (pA := pA) (arN := au (au ar 300 g (nI 5)) 301 g (nI 0)) (awN := aw2) hA hcl hre2 hk e q rfl h24 (fun i hi => ⟨(hkid i hi).2.1, by rw [a2 54 (by decide) (by decide) (by decide)]; exact (hkid i hi).2.2⟩) (tNk T k) 0 0 (au (au ar 300 g (nI 5)) 301 g (nI 0)) aw2 bigF bigF (by omega) (Nat.zero_le _) (by omega) (by omega) ⟨⟨by omega, au_self _ _ _ _, by rw [a5]; rfl, fun l hl => by
      rw [Nat.zero_testBit]
      constructor
      · intro hh; cases hh
      · rintro ⟨j, j1, _⟩; exact absurd j1 (Nat.not_lt_zero j), fun j hj => absurd hj (Nat.not_lt_zero j)⟩, ⟨fun _ _ _ => rfl, fun _ _ => rfl, fun _ _ => rfl⟩, ⟨fun _ _ _ => rfl, fun _ _ => rfl, fun _ _ => rfl⟩⟩
    have q1' : mX2_typeOfGather_L11 bigF (nI (tPl T k)) (nI g) 0 (va_up iv 303 (nI (g + 1))) (au (au ar 300 g (nI 5)) 301 g (nI 0)) la pA pB = some (nI g, va_up iv 303 (nI (g + 1)), ar3, la, pA, pB) := q1
    have q2' : mX12_typeRecord_L8 bigF (nI k) (nI g) 0 (va_up iw 3 (nI (g + 1))) aw2 = some (nI g, va_up iw 3 (nI (g + 1)), aw3) := q2
    rw [q1', q2']
    have hpart : ∀ j, j < tNk T k → ptS pt g (fun l => (ar3 302 (g * 8 + l)).toNatClampNeg) g (tLa T k j) = ty (tIn T k j) := fun j hj => by
      have := (hkid j hj).1
      rw [ptS_self, (i5 j hj).1, ncl (by omega)]
    refine ⟨nI g, nI g, g + 1, va_up kd g 5, va_up lb g L, ptS pt g (fun l => (ar3 302 (g * 8 + l)).toNatClampNeg), _, _, la, _, _, rfl, rfl, ⟨by omega, by omega, fun x hx => ⟨va_up_ne _ _ (by omega), va_up_ne _ _ (by omega), fun l => ptS_ne _ _ (by omega) l⟩⟩, ⟨by omega, fun x hx => ?_, ⟨rfl, fun x hx => ?_⟩, ⟨rfl, fun x hx => ?_⟩, ordI_keep rfl hg.2.2.2.2⟩, ⟨fun x a b c d => va_up_ne _ _ a, fun x a b c d e f => by rw [i6 x b c, au_ne _ b, au_ne _ a]⟩, ⟨fun x a b c d e => va_up_ne _ _ b, fun x hx => by rw [i9 x (by omega) (by omega), a2 x (by omega) (by omega) (by omega)]⟩, Or.inl ⟨g, by omega, rfl, rfl, h24, rfl, (by unfold tyR; refine ⟨?_, ?_, ?_, ?_, ?_, ?_, ?_, ?_, ?_, ?_, ?_⟩ <;> intro hq <;> first | (exfalso; omega) | exact (⟨va_up_self _ _ _, fun i hi => ⟨by rw [va_up_self]; exact (i4 _ (((hA.2.2 k hk).2.2 i (by rw [tAll_mn hA hk]; exact hi)).2.2.1 (Or.inl e)).1).mpr ⟨i, hi, rfl⟩, hpart i hi⟩, fun l hl hb => by rw [va_up_self] at hb; exact (i4 l hl).mp hb⟩))⟩⟩
    · by_cases ex : x = g
      · subst ex
        rw [va_up_self, va_up_self]
        refine ⟨by omega, i1, fun hh => by omega, fun hh => by omega, fun l hl hb => ?_⟩
        obtain ⟨j, j1, rfl⟩ := (i4 l hl).mp hb
        rw [hpart j j1]
        have := (hkid j j1).1
        omega
      · rw [va_up_ne _ _ ex, va_up_ne _ _ ex]
        obtain ⟨x1, x2, x3, x4, x5⟩ := hg.2.1 x (by omega)
        exact ⟨x1, x2, x3, x4, fun l hl hb => by rw [ptS_ne _ _ ex]; exact Nat.lt_succ_of_lt (x5 l hl hb)⟩
    · by_cases ex : x = g
      · subst ex
        rw [va_up_self, va_up_self]
        refine ⟨by rw [i6 300 (by decide) (by decide), au_ne _ (by decide), au_self], i2, fun l hl hb => ?_⟩
        obtain ⟨j, j1, rfl⟩ := (i4 l hl).mp hb
        rw [hpart j j1]
        exact (i5 j j1).1
      · rw [va_up_ne _ _ ex, va_up_ne _ _ ex]
        obtain ⟨x1, x2, x3⟩ := hg.2.2.1.2 x (by omega)
        refine ⟨by rw [i6 300 (by decide) (by decide), au_ne _ (by decide), au_ni _ ex]; exact x1, by rw [i7 x ex, au_ni _ ex]; exact x2, fun l hl hb => ?_⟩
        rw [ptS_ne _ _ ex, i8 _ (by omega)]
        exact x3 l hl hb
    · by_cases ex : x = g
      · subst ex
        rw [va_up_self, va_up_self]
        refine ⟨by rw [i9 4 (by decide) (by decide), a4], i3, fun l hl hb => ?_⟩
        obtain ⟨j, j1, rfl⟩ := (i4 l hl).mp hb
        rw [hpart j j1]
        exact (i5 j j1).2
      · rw [va_up_ne _ _ ex, va_up_ne _ _ ex]
        obtain ⟨x1, x2, x3⟩ := hg.2.2.2.1.2 x (by omega)
        refine ⟨by rw [i9 4 (by decide) (by decide), (a3 x ex).1]; exact x1, by rw [i10 x ex, (a3 x ex).2]; exact x2, fun l hl hb => ?_⟩
        rw [ptS_ne _ _ ex, i11 _ (by omega), a6 _ (by omega)]
        exact x3 l hl hb
  · rw [if_neg q, if_neg q, obce, obe]
    have q1' : mX2_typeOfGather_L11 bigF (nI (tPl T k)) m3 0 iv ar la pA pB = some (m3, iv, ar, la, pA, pB) := gather_full (ty := ty) hA hcl hk e (fun i hi => (hkid i hi).2.1) (tNk T k) 0 bigF (by omega) (Nat.zero_le _) (by omega)
    have q2' : mX12_typeRecord_L8 bigF (nI k) 0 0 (va_up iw 24 m3) aw = some (0, va_up iw 24 m3, aw) := by
      rw [hF, mX12_typeRecord_L8]
      rw [if_neg (by first | exact nI_in (by omega) (by omega) | exact nI_inn (by omega) (by omega)), ncl (by omega)]
      by_cases qq : (aw 38 k) ≤ 0
      · rw [if_pos qq]
      · rw [if_neg qq, if_neg (show ¬ (va_up iw 24 m3) 24 = 0 from (show ¬ m3 = 0 by decide))]
    rw [q1', q2']
    exact ⟨m3, 0, g, kd, lb, pt, iv, ar, la, _, _, rfl, rfl, grow_r hg.1, ⟨hg.1, hg.2.1, hg.2.2.1, ⟨hg.2.2.2.1.1, hg.2.2.2.1.2⟩, hg.2.2.2.2⟩, fD_r _ _, ⟨fun x a b c d e => va_up_ne _ _ e, fun _ _ => rfl⟩, Or.inr (Or.inr ⟨rfl, rfl, rfl⟩)⟩
/-- the type of a term whose terms have theirs -/
theorem ty_all (h : kAll g0 kd0 lb0 g kd lb pt m T ty va k iv ar la pB iw aw) : dOut g kd lb pt T ty va k iv ar pA pB iw aw (obc (mX2_typeOf (nI (tPl T k)) iv ar la pA pB) (fun r91 iv91 ar91 la91 pA91 pB91 => mX2_joinBranches (nI (tPl T k)) r91 iv91 ar91 la91 pA91 pB91)) (mX12_typeDone (nI k) (nI (tSc T k).length) iw aw) := by
  have hw := (h.1.1.2.2 k h.2.1.2.2).1.1.1
  by_cases e28 : tWd T k = 28
  · exact ty28 h e28 _
  by_cases e32 : tWd T k = 32
  · exact ty32 h e32 _
  refine dOut_of h e28 e32 ?_
  rcases (show tWd T k = 20 ∨ tWd T k = 21 ∨ tWd T k = 22 ∨ tWd T k = 23 ∨ (tWd T k = 24 ∨ tWd T k = 25) ∨ (tWd T k = 26 ∨ tWd T k = 27) ∨ tWd T k = 29 ∨ tWd T k = 30 ∨ tWd T k = 31 ∨ tWd T k = 33 by omega) with e | e | e | e | e | e | e | e | e | e
  · exact ty20 h e
  · exact ty21 h e _
  · exact ty22 h e _
  · exact ty23 h e _
  · exact ty24 h e _
  · exact ty26 h e _
  · exact ty29 h e _
  · exact ty30 h e _
  · exact ty31 h e _
  · exact ty33 h e _
end
