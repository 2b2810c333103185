theorem p8 {l : Nat} (h : l < 8) : 2 ^ l < 256 := Nat.pow_lt_pow_right (a := 2) (n := 8) (by decide) h
/-- the labels of the first i terms in a record, as bits -/
def rMk (T : TT) (k : Nat) : Nat → Nat
  | 0 => 0
  | i + 1 => rMk T k i ||| 2 ^ (tLa T k i)
theorem rMk_lt {T : TT} {k : Nat} : ∀ i, (∀ j, j < i → tLa T k j < 8) → rMk T k i < 256
  | 0, _ => (show 0 < 256 by decide)
  | i + 1, h => Nat.or_lt_two_pow (n := 8) (rMk_lt i (fun j hj => h j (by omega))) (p8 (h i (by omega)))
theorem rMk_bit {T : TT} {k l : Nat} : ∀ i, (rMk T k i).testBit l = true ↔ ∃ j, j < i ∧ tLa T k j = l
  | 0 => by simp [rMk]
  | i + 1 => by
    unfold rMk
    rw [Nat.testBit_or, Bool.or_eq_true_iff, rMk_bit i, Nat.testBit_two_pow, decide_eq_true_eq]
    constructor
    · rintro (⟨j, j1, j2⟩ | q)
      · exact ⟨j, by omega, j2⟩
      · exact ⟨i, by omega, q⟩
    · rintro ⟨j, j1, j2⟩
      by_cases q : j = i
      · subst q
        exact Or.inr j2
      · exact Or.inl ⟨j, by omega, j2⟩
section
variable {g0 : Nat} {kd0 lb0 : Nat → Nat} {g : Nat} {kd lb : Nat → Nat} {pt : Nat → Nat → Nat} {m : Nat} {T : TT} {ty va τ : Nat → Nat} {vis : List Nat} {nv nc s : Nat} {pn : Int32} {fs : List (Nat × Int32 × Nat)} {k : Nat} {c : Int32} {iv : mI} {ar : mA} {la : mL} {pA pB : mA} {iw : mI} {aw : mA} {iv0 : mI} {ar0 : mA} {iw0 : mI} {aw0 : mA}
theorem lab8 (hA : tAll g0 kd0 lb0 m T) (hk : k < m) (e : tWd T k = 29) {i : Nat} (hi : i < tNk T k) : tLa T k i < 8 := (((hA.2.2 k hk).2.2 i (by rw [tAll_mn hA hk]; exact hi)).2.2.1 (Or.inl e)).1
theorem lab_ne (hA : tAll g0 kd0 lb0 m T) (hk : k < m) (e : tWd T k = 29) {i j : Nat} (hi : i < tNk T k) (hj : j < tNk T k) (hne : i ≠ j) : tLa T k i ≠ tLa T k j := by
  rcases Nat.lt_or_gt_of_ne hne with q | q
  · have := labs_lt hA hk e j i hj q; omega
  · have := labs_lt hA hk e i j hi q; omega
/-- the class gathers the labels -/
theorem gath1 (hA : tAll g0 kd0 lb0 m T) (hcl : tCl m T pA) (hk : k < m) (e : tWd T k = 29) {L : Int32} : ∀ (d i n : Nat), tNk T k - i = d → i ≤ tNk T k → d < n → mX4_gather_L5 n (nI (tPl T k)) L (nI (rMk T k i)) (nI i) iv ar la pA pB = obc (mX10_add 5 (nI (rMk T k (tNk T k))) iv ar la pA pB) (fun r52 iv52 ar52 la52 pA52 pB52 => mX4_gather_L60 bigF (nI (tPl T k)) L r52 0 iv52 ar52 la52 pA52 pB52) := by
  have h8 : ∀ i, i ≤ tNk T k → rMk T k i < 256 := fun i hi => rMk_lt i (fun j hj => lab8 hA hk e (by omega))
  have h9 := hOK9 (hA.2.2 k hk).1.1
  intro d
  induction d with
  | zero =>
    intro i n hd hi hn
    obtain ⟨n, rfl⟩ : ∃ x, n = x + 1 := ⟨n - 1, by omega⟩
    have ei : i = tNk T k := by omega
    subst ei
    conv => lhs; rw [mX4_gather_L5]
    rw [c_countA hA hcl hk, obce, if_pos (nI_le (Nat.le_refl _) (by omega))]
  | succ d ih =>
    intro i n hd hi hn
    obtain ⟨n, rfl⟩ : ∃ x, n = x + 1 := ⟨n - 1, by omega⟩
    have hlt : i < tNk T k := by omega
    have l8 := lab8 hA hk e hlt
    rw [← ih (i + 1) n (by omega) (by omega) (by omega)]
    conv => lhs; rw [mX4_gather_L5]
    rw [c_countA hA hcl hk, obce, if_neg (nI_ge hlt (by omega)), c_kidA hA hcl hk hlt, obce, c_labelA hA hcl hk hlt (Or.inl e), obce, bit_1 l8, nor_ (h8 i hi) (p8 l8), show nI i + 1 = nI (i + 1) from nadd _ 1]
    rfl
/-- the class sets the parts -/
theorem gath2 (hA : tAll g0 kd0 lb0 m T) (hcl : tCl m T pA) (hk : k < m) (e : tWd T k = 29) {L : Nat} (hL : L < 300) (hn : nv < 2000) (h5 : iv 1005 = nI (nv + 1)) : ∀ (d i n : Nat) (ar : mA), tNk T k - i = d → i ≤ tNk T k → d < n → ∃ ar2, mX4_gather_L60 n (nI (tPl T k)) (nI L) (nI nv) (nI i) iv ar la pA pB = some (nI nv, iv, ar2, la, pA, pB) ∧ (∀ r, r ≠ 1002 → ar2 r = ar r) ∧ (∀ p, p < nv * 8 → ar2 1002 p = ar 1002 p) ∧ (∀ j, j < i → ar2 1002 (nv * 8 + tLa T k j) = ar 1002 (nv * 8 + tLa T k j)) ∧ (∀ j, i ≤ j → j < tNk T k → ar2 1002 (nv * 8 + tLa T k j) = ar 406 (L * 8 + j)) := by
  have h9 := ((hA.2.2 k hk).1.1.2.2.2.2.2.2.1 e).1
  intro d
  induction d with
  | zero =>
    intro i n ar hd hi hn
    obtain ⟨n, rfl⟩ : ∃ x, n = x + 1 := ⟨n - 1, by omega⟩
    refine ⟨ar, ?_, fun _ _ => rfl, fun _ _ => rfl, fun _ _ => rfl, fun j h1 h2 => by omega⟩
    conv => lhs; rw [mX4_gather_L60]
    rw [c_countA hA hcl hk, obce, if_pos (nI_le (show tNk T k ≤ i by omega) (by omega))]
  | succ d ih =>
    intro i n ar hd hi hnn
    obtain ⟨n, rfl⟩ : ∃ x, n = x + 1 := ⟨n - 1, by omega⟩
    have hlt : i < tNk T k := by omega
    have l8 := lab8 hA hk e hlt
    obtain ⟨ar2, b1, b2, b3, b4, b5⟩ := ih (i + 1) n (au ar 1002 (nv * 8 + tLa T k i) (ar 406 (L * 8 + i))) (by omega) (by omega) (by omega)
    refine ⟨ar2, ?_, fun r hr => by rw [b2 r hr, au_ne _ hr], fun p hp => by rw [b3 p hp, au_ni _ (by omega)], fun j hj => ?_, fun j h1 h2 => ?_⟩
    · rw [← b1]
      conv => lhs; rw [mX4_gather_L60]
      rw [c_countA hA hcl hk, obce, if_neg (nI_ge hlt (by omega)), c_kidA hA hcl hk hlt, obce, c_labelA hA hcl hk hlt (Or.inl e), obce, c_gott hL (show i < 8 by omega), obce, v_set (nv := nv + 1) (Nat.lt_succ_self _) (by omega) h5 l8, obce, show nI i + 1 = nI (i + 1) from nadd _ 1]
    · have q := lab_ne hA hk e (show j < tNk T k by omega) hlt (by omega)
      rw [b4 j (by omega), au_ni _ (by omega)]
    · by_cases q : j = i
      · subst q
        rw [b4 j (by omega), au_self]
      · rw [b5 j (by omega) h2]
        rfl
theorem gath3 (hA : tAll g0 kd0 lb0 m T) (hcl : tCl m T pA) (hk : k < m) (e : tWd T k = 29) {L : Nat} (hL : L < 300) : ∀ (d i n : Nat), tNk T k - i = d → i ≤ tNk T k → d < n → mX4_gather_L60 n (nI (tPl T k)) (nI L) (-1) (nI i) iv ar la pA pB = some (-1, iv, ar, la, pA, pB) := by
  have h9 := ((hA.2.2 k hk).1.1.2.2.2.2.2.2.1 e).1
  intro d
  induction d with
  | zero =>
    intro i n hd hi hn
    obtain ⟨n, rfl⟩ : ∃ x, n = x + 1 := ⟨n - 1, by omega⟩
    conv => lhs; rw [mX4_gather_L60]
    rw [c_countA hA hcl hk, obce, if_pos (nI_le (show tNk T k ≤ i by omega) (by omega))]
  | succ d ih =>
    intro i n hd hi hnn
    obtain ⟨n, rfl⟩ : ∃ x, n = x + 1 := ⟨n - 1, by omega⟩
    have hlt : i < tNk T k := by omega
    rw [← ih (i + 1) n (by omega) (by omega) (by omega)]
    conv => lhs; rw [mX4_gather_L60]
    rw [c_countA hA hcl hk, obce, if_neg (nI_ge hlt (by omega)), c_kidA hA hcl hk hlt, obce, c_labelA hA hcl hk hlt (Or.inl e), obce, c_gott hL (show i < 8 by omega), obce, v_set1, obce, show nI i + 1 = nI (i + 1) from nadd _ 1]
/-- the reference does both -/
theorem gath4 (hA : tAll g0 kd0 lb0 m T) (hk : k < m) (e : tWd T k = 29) {L : Nat} (hL : L < 300) (hn : nv < 2000) : ∀ (d i n : Nat) (aw : mA), tDo m T aw → aw 59 nv = nI (rMk T k i) → tNk T k - i = d → i ≤ tNk T k → d < n → ∃ aw2, mX12_finishMore_L47 n (nI L) (nI k) (nI nv) (nI i) iw aw = some (nI nv, iw, aw2) ∧ (∀ r, r ≠ 59 → r ≠ 60 → aw2 r = aw r) ∧ (∀ p, p ≠ nv → aw2 59 p = aw 59 p) ∧ aw2 59 nv = nI (rMk T k (tNk T k)) ∧ (∀ p, p < 8 * nv ∨ 8 * nv + 8 ≤ p → aw2 60 p = aw 60 p) ∧ (∀ l, l < 8 → (∀ j, i ≤ j → j < tNk T k → tLa T k j ≠ l) → aw2 60 (8 * nv + l) = aw 60 (8 * nv + l)) ∧ (∀ j, i ≤ j → j < tNk T k → aw2 60 (8 * nv + tLa T k j) = aw 70 (9 * L + j)) := by
  have h9 := ((hA.2.2 k hk).1.1.2.2.2.2.2.2.1 e).1
  have h8 : ∀ i, i ≤ tNk T k → rMk T k i < 256 := fun i hi => rMk_lt i (fun j hj => lab8 hA hk e (by omega))
  have hk2 : k < 200 := Nat.lt_of_lt_of_le hk hA.2.1
  intro d
  induction d with
  | zero =>
    intro i n aw hdo h59 hd hi hn
    obtain ⟨n, rfl⟩ : ∃ x, n = x + 1 := ⟨n - 1, by omega⟩
    have ei : i = tNk T k := by omega
    subst ei
    refine ⟨aw, ?_, fun _ _ _ => rfl, fun _ _ => rfl, h59, fun _ _ => rfl, fun _ _ _ => rfl, fun j h1 h2 => by omega⟩
    conv => lhs; rw [mX12_finishMore_L47]
    rw [if_neg (by first | exact nI_in (by omega) (by omega) | exact nI_inn (by omega) (by omega)), ncl (show k < 2147483648 by omega), (hdo k hk).1.2.2.2, if_pos (nI_le (Nat.le_refl _) (by omega))]
  | succ d ih =>
    intro i n aw hdo h59 hd hi hnn
    obtain ⟨n, rfl⟩ : ∃ x, n = x + 1 := ⟨n - 1, by omega⟩
    have hlt : i < tNk T k := by omega
    have l8 := lab8 hA hk e hlt
    obtain ⟨aw2, b1, b2, b3, b4, b5, b6, b7⟩ := ih (i + 1) n (au (au aw 59 nv (nI (rMk T k (i + 1)))) 60 (8 * nv + tLa T k i) (aw 70 (9 * L + i))) hdo (by rw [au_ne _ (by decide), au_self]) (by omega) (by omega) (by omega)
    refine ⟨aw2, ?_, fun r r1 r2 => by rw [b2 r r1 r2, au_ne _ r2, au_ne _ r1], fun p hp => by rw [b3 p hp, au_ne _ (by decide), au_ni _ hp], b4, fun p hp => by rw [b5 p hp, au_ni _ (by omega), au_ne _ (by decide)], fun l hl hj => ?_, fun j h1 h2 => ?_⟩
    · rw [← b1]
      conv => lhs; rw [mX12_finishMore_L47]
      rw [if_neg (by first | exact nI_in (by omega) (by omega) | exact nI_inn (by omega) (by omega)), ncl (show k < 2147483648 by omega), (hdo k hk).1.2.2.2, if_neg (nI_ge hlt (by omega)), if_neg (nI_pos (show nv < 2147483648 by omega)), show (9 : Int32) * nI k + nI i = nI (9 * k + i) by rw [show (9 : Int32) = nI 9 from rfl, nmul, nadd], if_neg (nI_in (c := 9 * k + i) (N := 1800) (by omega) (by decide)), if_neg (nI_in (c := nv) (N := 2000) (by omega) (by decide)), if_neg (nI_in (c := nv) (N := 2000) (by omega) (by decide)), show (9 : Int32) * nI L + nI i = nI (9 * L + i) by rw [show (9 : Int32) = nI 9 from rfl, nmul, nadd], if_neg (nI_in (c := 9 * L + i) (N := 2709) (by omega) (by decide)), ncl (show 9 * k + i < 2147483648 by omega), ((hdo k hk).2 i hlt).2 (Or.inl e), show (8 : Int32) * nI nv + nI (tLa T k i) = nI (8 * nv + tLa T k i) by rw [show (8 : Int32) = nI 8 from rfl, nmul, nadd], if_neg (nI_in (c := 8 * nv + tLa T k i) (N := 16000) (by omega) (by decide)), ncl (show nv < 2147483648 by omega), ncl (show 8 * nv + tLa T k i < 2147483648 by omega), ncl (show 9 * L + i < 2147483648 by omega), h59, bit_1 l8, nor_ (h8 i hi) (p8 l8), show nI i + 1 = nI (i + 1) from nadd _ 1]
      rfl
    · rw [b6 l hl (fun j h1 h2 => hj j (by omega) h2), au_ni _ (by have := hj i (Nat.le_refl _) hlt; omega), au_ne _ (by decide)]
    · by_cases q : j = i
      · subst q
        rw [b6 _ l8 (fun j2 h3 h4 => lab_ne hA hk e h4 hlt (by omega)), au_self]
      · rw [b7 j (by omega) h2]
        rfl
/-- a record -/
theorem g29 (hX : rCx g0 kd0 lb0 g kd lb pt m T ty va vis pA) (hP : fPt g kd lb pt m T ty va τ vis nv nc s m1 fs k c iv ar iw aw iv0 ar0 iw0 aw0) (hV : gV kd lb pt T ty τ nv fs.length k iv ar aw) {x : Int32} (e : tWd T k = 29) : fnO g kd lb pt m T ty va vis s fs iv0 ar0 la pA pB iw0 aw0 (mX4_finish (nI (tPl T k)) x c iv ar la pA pB) (mX12_finish (nI fs.length) (nI k) iw aw) := by
  obtain ⟨w1, w2, w3, w4, w5, w6, w7, w8⟩ := b_word (la := la) (pB := pB) hX hP e
  obtain ⟨-, hty, htyR, hkids, hscv, hbd⟩ := hX.2.2.2.2 k hP.2.1.1
  have h9 := ((hX.1.2.2 k w4).1.1.2.2.2.2.2.2.1 e).1
  have hnd : tNd T k = tNk T k := by unfold tNd; rw [if_neg (by omega)]
  have kt : ∀ j, tKt T k j = tIn T k j := fun j => by unfold tKt tTp; rw [if_neg (by omega)]
  obtain ⟨q3, q4, q5⟩ := htyR.2.2.2.2.2.2.1 e
  have hM : rMk T k (tNk T k) < 256 := rMk_lt _ (fun j hj => lab8 hX.1 w4 e hj)
  obtain ⟨hm, ⟨k1, k2, k3⟩, ⟨p1, p2, p3, p4, p5⟩, hnc, f1, f2⟩ := hP
  have hv := hm.1.1.1
  have h407 : iv 407 = nI fs.length := hm.2.2.1.1
  obtain ⟨F, hF, hFF⟩ : ∃ F, bigF = F + 1 ∧ 5000 < F := ⟨999999, rfl, by omega⟩
  have hg1 := gath1 (iv := iv) (ar := ar) (la := la) (pB := pB) (L := nI fs.length) hX.1 hX.2.1 w4 e (tNk T k) 0 bigF (by omega) (by omega) (by omega)
  have hcl : mX4_finish (nI (tPl T k)) x c iv ar la pA pB = obc (obc (mX10_add 5 (nI (rMk T k (tNk T k))) iv ar la pA pB) (fun r52 iv52 ar52 la52 pA52 pB52 => mX4_gather_L60 bigF (nI (tPl T k)) (nI fs.length) r52 0 iv52 ar52 la52 pA52 pB52)) (fun r223 iv223 ar223 la223 pA223 pB223 => obc (mX4_give r223 iv223 ar223 la223 pA223 pB223) (fun r226 iv226 ar226 la226 pA226 pB226 => some (0, iv226, ar226, la226, pA226, pB226))) := by
    rw [cfn29 w1]
    unfold mX4_gather
    rw [h407, ← hg1]
    rfl
  rcases newV_both (K := 5) (x := nI (rMk T k (tNk T k))) (ar := ar) (la := la) (pA := pA) (pB := pB) (aw := aw) hv.1 hv.2.1 hv.2.2 with ⟨hn, -, e1, -⟩ | ⟨hn, e1, -⟩
  · rcases (newV_both (K := 5) (x := 0) (ar := ar) (la := la) (pA := pA) (pB := pB) (aw := aw) hv.1 hv.2.1 hv.2.2).symm with ⟨hn2, -, -⟩ | ⟨-, aw2, -, e2, b1, b2, b3, b4, b5⟩
    · omega
    obtain ⟨ar3, x1, x2, x3, -, x5⟩ := gath2 (iv := va_up iv 1005 (nI (nv + 1))) (la := la) (pB := pB) hX.1 hX.2.1 w4 e p5 hn rfl (tNk T k) 0 bigF (au (au (au (au ar 1000 nv (nI 5)) 1001 nv (nI (rMk T k (tNk T k)))) 1003 nv (-1)) 1004 nv (-1)) (by omega) (by omega) (by omega)
    have hdo2 : tDo m T aw2 := by
      intro k hk
      rw [b1 40 (by decide) (by decide) (by decide), b1 41 (by decide) (by decide) (by decide), b1 42 (by decide) (by decide) (by decide), b1 43 (by decide) (by decide) (by decide), b1 44 (by decide) (by decide) (by decide), b1 45 (by decide) (by decide) (by decide)]
      exact hm.2.2.2.2.2 k hk
    obtain ⟨aw3, y1, y2, y3, y4, y5, y6, y7⟩ := gath4 (iw := va_up (va_up iw 71 (nI fs.length)) 56 (nI (nv + 1))) hX.1 w4 e p5 hn (tNk T k) 0 bigF aw2 hdo2 (by rw [b3, if_pos rfl]; rfl) (by omega) (by omega) (by omega)
    have hB : mX4_finish (nI (tPl T k)) x c iv ar la pA pB = some (0, va_up (va_up (va_up iv 1005 (nI (nv + 1))) 409 (-1)) 412 (nI nv), ar3, la, pA, pB) := by
      rw [hcl, show (5 : Int32) = nI 5 from rfl, e1, obce, show (0 : Int32) = nI 0 from rfl, x1, obce]
      unfold mX4_give
      rw [obce]
    have hR : mX12_finish (nI fs.length) (nI k) iw aw = some (nI nv, va_up (va_up iw 71 (nI fs.length)) 56 (nI (nv + 1)), aw3) := by
      rw [rfn29 w5 w3 w2, ob_id, w6, rfm29 w3 w2, show (5 : Int32) = nI 5 from rfl, e2, obe]
      exact y1
    have r1000 : ar3 1000 nv = nI 5 := by rw [x2 1000 (by decide)]; simp [aur]
    have r1001 : ar3 1001 nv = nI (rMk T k (tNk T k)) := by rw [x2 1001 (by decide)]; simp [aur]
    have hval : ∀ j, j < tNk T k → ∃ w, w < nv ∧ ar3 1002 (nv * 8 + tLa T k j) = nI w ∧ aw3 60 (8 * nv + tLa T k j) = nI w ∧ blw kd lb pt (τ w) (ty (tIn T k j)) := by
      intro j hj
      obtain ⟨w, v1, v2, v3, v4, -⟩ := hV j (by omega)
      rw [kt] at v4
      refine ⟨w, v1, ?_, ?_, v4⟩
      · rw [x5 j (Nat.zero_le _) hj]
        exact v2
      · rw [y7 j (Nat.zero_le _) hj, b1 70 (by decide) (by decide) (by decide)]
        exact v3
    refine Or.inl ⟨fun w => if w = nv then ty k else τ w, nv + 1, nc, nv, _, _, _, _, hB, hR, mSt_new (pn2 := m1) hX hm hn hty (by omega) ⟨rfl, rfl, rfl, rfl⟩ ⟨rfl, rfl, rfl, rfl, rfl⟩ (fun r hr => ?_) (fun v hv => ?_) (fun r hr => ?_) (fun v hv => ?_) ?_ ?_ ?_ (fun l hl => ?_) (fun q => by omega) (fun _ => ⟨rMk T k (tNk T k), hM, r1001, fun l hl hb => ?_⟩) (fun q => by omega), ⟨⟨rfl, rfl, p4⟩, p2, Nat.lt_succ_self _, ?_⟩, ?_, ?_⟩
    · rw [x2 r (by omega), au_ne _ (by omega), au_ne _ (by omega), au_ne _ (by omega), au_ne _ (by omega)]
    · refine ⟨by rw [x2 1000 (by decide)]; simp [aur, show ¬ v = nv by omega], by rw [x2 1001 (by decide)]; simp [aur, show ¬ v = nv by omega], by rw [x2 1003 (by decide)]; simp [aur, show ¬ v = nv by omega], by rw [x2 1004 (by decide)]; simp [aur, show ¬ v = nv by omega], fun l hl => ?_⟩
      rw [x3 _ (by omega)]
      rfl
    · rw [y2 r (by omega) (by omega), b1 r (by omega) (by omega) (by omega)]
    · rw [y2 58 (by decide) (by decide), b2 v, y3 v (by omega), b3 v, y2 61 (by decide) (by decide), y2 62 (by decide) (by decide), b1 61 (by decide) (by decide) (by decide), b1 62 (by decide) (by decide) (by decide), if_neg (by omega), if_neg (by omega)]
      refine ⟨rfl, rfl, rfl, rfl, fun l hl => ?_⟩
      rw [y5 _ (by omega)]
      exact b4 _ (by omega)
    · rw [q3, r1000]
    · rw [q3, y2 58 (by decide) (by decide), b2, if_pos rfl]
    · rw [r1001, y4]
    · rw [r1000, r1001]
      by_cases hb : (rMk T k (tNk T k)).testBit l = true
      · obtain ⟨j, j1, j2⟩ := (rMk_bit _).mp hb
        obtain ⟨w, v1, v2, v3, -⟩ := hval j j1
        rw [j2] at v2 v3
        rw [if_pos (Or.inl ⟨rfl, by rw [bitn hM hl]; exact hb⟩), v2, v3]
      · have hnone : ∀ j, 0 ≤ j → j < tNk T k → tLa T k j ≠ l := fun j _ j1 j2 => hb ((rMk_bit _).mpr ⟨j, j1, j2⟩)
        rw [y6 l hl hnone, b5 l hl, if_neg]
        rintro (⟨-, q⟩ | ⟨q, -⟩)
        · rw [bitn hM hl] at q
          exact hb q
        · exact absurd q (by decide)
    · obtain ⟨j, j1, j2⟩ := q5 l hl hb
      obtain ⟨w, v1, v2, v3, v4⟩ := hval j j1
      rw [j2] at v2
      refine ⟨(rMk_bit _).mpr ⟨j, j1, j2⟩, w, v1, v2, ?_⟩
      rw [← j2, (q4 j j1).2]
      exact v4
    · show exB kd lb pt T ty (if nv = nv then ty k else τ nv) fs
      rw [if_pos rfl]
      exact k3
    · exact fRc_t f1 ⟨fun x a b c => by rw [va_up_ne _ _ (by omega), va_up_ne _ _ (by omega), va_up_ne _ _ (by omega)], fun x hx => by rw [x2 x (by omega), au_ne _ (by omega), au_ne _ (by omega), au_ne _ (by omega), au_ne _ (by omega)]⟩
    · exact fRr_t f2 ⟨fun x hx => by rw [va_up_ne _ _ (by omega), va_up_ne _ _ (by omega)], fun x hx => by rw [y2 x (by omega) (by omega), b1 x (by omega) (by omega) (by omega)]⟩
  · rcases newV_both (K := 5) (x := 0) (ar := ar) (la := la) (pA := pA) (pB := pB) (aw := aw) hv.1 hv.2.1 hv.2.2 with ⟨hn2, -⟩ | ⟨-, -, e2⟩
    · omega
    have hB : mX4_finish (nI (tPl T k)) x c iv ar la pA pB = some (0, va_up (va_up iv 409 (-1)) 412 (-1), ar, la, pA, pB) := by
      rw [hcl, show (5 : Int32) = nI 5 from rfl, e1, obce, show (0 : Int32) = nI 0 from rfl, gath3 hX.1 hX.2.1 w4 e p5 (tNk T k) 0 bigF (by omega) (by omega) (by omega), obce]
      unfold mX4_give
      rw [obce]
    have hR : mX12_finish (nI fs.length) (nI k) iw aw = some (-1, va_up (va_up iw 71 (nI fs.length)) 72 m16, aw) := by
      rw [rfn29 w5 w3 w2, ob_id, w6, rfm29 w3 w2, show (5 : Int32) = nI 5 from rfl, e2, obe, hF]
      conv => lhs; rw [mX12_finishMore_L47]
      rw [if_neg (by first | exact nI_in (by omega) (by omega) | exact nI_inn (by omega) (by omega)), ncl (show k < 2147483648 by omega), (hm.2.2.2.2.2 k w4).1.2.2.2]
      by_cases q : nI (tNk T k) ≤ 0
      · rw [if_pos q]
      · rw [if_neg q, if_pos (show (-1 : Int32) < 0 by decide)]
    refine Or.inr (Or.inr ⟨nv, _, _, _, _, _, hB, hR, rfl, rfl, p2, rfl, hm.1.1, ?_, ?_, ?_⟩)
    · show iv 408 = iw 57
      rw [hm.2.2.2.1.1]
      exact hm.2.2.2.1.2.1.symm
    · exact fRc_t f1 ⟨fun x a b c => by rw [va_up_ne _ _ (by omega), va_up_ne _ _ (by omega)], fun _ _ => rfl⟩
    · exact fRr_t f2 ⟨fun x hx => by rw [va_up_ne _ _ (by omega), va_up_ne _ _ (by omega)], fun _ _ => rfl⟩
end
