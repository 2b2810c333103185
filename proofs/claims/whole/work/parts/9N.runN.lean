section
variable {g0 : Nat} {kd0 lb0 : Nat → Nat} {g : Nat} {kd lb : Nat → Nat} {pt : Nat → Nat → Nat} {m : Nat} {T : TT} {ty va τ : Nat → Nat} {vis : List Nat} {nv nc s : Nat} {pn : Int32} {fs : List (Nat × Int32 × Nat)} {k : Nat} {c : Int32} {iv : mI} {ar : mA} {la : mL} {pA pB : mA} {iw : mI} {aw : mA} {iv0 : mI} {ar0 : mA} {iw0 : mI} {aw0 : mA}
theorem v_num {w : Nat} (hw : w < nv) (hn : nv ≤ 2000) (h : iv 1005 = nI nv) : mX10_numberOf (nI w) iv ar la pA pB = some (ar 1001 w, iv, ar, la, pA, pB) := by
  unfold mX10_numberOf
  rw [v_has hw hn h, obce, if_neg (show ¬ (1 : Int32) = 0 by decide), if_neg (by first | exact nI_in (by omega) (by omega) | exact nI_inn (by omega) (by omega)), ncl (by omega)]
theorem v_lam {w : Nat} (hw : w < nv) (hn : nv ≤ 2000) (h : iv 1005 = nI nv) : mX10_lambdaOf (nI w) iv ar la pA pB = some (ar 1003 w, iv, ar, la, pA, pB) := by
  unfold mX10_lambdaOf
  rw [v_has hw hn h, obce, if_neg (show ¬ (1 : Int32) = 0 by decide), if_neg (by first | exact nI_in (by omega) (by omega) | exact nI_inn (by omega) (by omega)), ncl (by omega)]
theorem v_cell {w : Nat} (hw : w < nv) (hn : nv ≤ 2000) (h : iv 1005 = nI nv) : mX10_cellOf (nI w) iv ar la pA pB = some (ar 1004 w, iv, ar, la, pA, pB) := by
  unfold mX10_cellOf
  rw [v_has hw hn h, obce, if_neg (show ¬ (1 : Int32) = 0 by decide), if_neg (by first | exact nI_in (by omega) (by omega) | exact nI_inn (by omega) (by omega)), ncl (by omega)]
/-- kinds and labels of what is below -/
theorem blw_kd (hG : Gr g kd lb pt) {a b : Nat} (ha : a < g) (hb : b < g) (h2 : 2 ≤ kd a) (h : blw kd lb pt a b) : kd b ≠ 1 ∧ (kd b ≠ 0 → kd a = kd b ∧ (kd b = 4 → blw kd lb pt (pt b 0) (pt a 0) ∧ blw kd lb pt (pt a 1) (pt b 1) ∧ pt a 0 < g ∧ pt a 1 < g ∧ pt b 0 < g ∧ pt b 1 < g) ∧ (kd b = 5 → ∀ l, l < 8 → (lb b).testBit l = true → (lb a).testBit l = true ∧ blw kd lb pt (pt a l) (pt b l) ∧ pt a l < g ∧ pt b l < g) ∧ (kd b = 6 → ∀ l, l < 8 → (lb a).testBit l = true → (lb b).testBit l = true ∧ blw kd lb pt (pt a l) (pt b l) ∧ pt a l < g ∧ pt b l < g)) := by
  have hf := fitI.mp (blw_fit h)
  have hne : kd b ≠ 1 := by
    rcases hf with q | q | ⟨q, -, -⟩
    · omega
    · omega
    · omega
  refine ⟨hne, fun h0 => ?_⟩
  obtain ⟨e, h5, h6⟩ : kd a = kd b ∧ (kd a = 5 → ∀ l, (lb b).testBit l = true → (lb a).testBit l = true) ∧ (kd a = 6 → ∀ l, (lb a).testBit l = true → (lb b).testBit l = true) := by
    rcases hf with q | q | q
    · omega
    · omega
    · exact q
  have hn : ∀ l, l < 8 → (lb a).testBit l = true → (lb b).testBit l = true → blw kd lb pt (nxA kd pt a b l) (nxB kd pt a b l) := fun l hl q1 q2 => blw_next h hl (wlI.mpr ⟨q1, q2⟩)
  obtain ⟨-, -, -, ga4, ga5⟩ := hG a ha
  obtain ⟨-, -, -, gb4, gb5⟩ := hG b hb
  refine ⟨e, fun e4 => ?_, fun e5 l hl hbl => ?_, fun e6 l hl hal => ?_⟩
  · have qa := ga4 (by omega)
    have qb := gb4 e4
    have a0 : (lb a).testBit 0 = true := by rw [qa]; decide
    have a1 : (lb a).testBit 1 = true := by rw [qa]; decide
    have b0 : (lb b).testBit 0 = true := by rw [qb]; decide
    have b1 : (lb b).testBit 1 = true := by rw [qb]; decide
    have n0 := hn 0 (by decide) a0 b0
    have n1 := hn 1 (by decide) a1 b1
    unfold nxA nxB at n0 n1
    rw [if_pos ⟨by omega, rfl⟩, if_pos ⟨by omega, rfl⟩] at n0
    rw [if_neg (by omega), if_neg (by omega)] at n1
    exact ⟨n0, n1, ga5 0 (by decide) a0, ga5 1 (by decide) a1, gb5 0 (by decide) b0, gb5 1 (by decide) b1⟩
  · have hal := h5 (by omega) l hbl
    have q := hn l hl hal hbl
    unfold nxA nxB at q
    rw [if_neg (by omega), if_neg (by omega)] at q
    exact ⟨hal, q, ga5 l hl hal, gb5 l hl hbl⟩
  · have hbl := h6 (by omega) l hal
    have q := hn l hl hal hbl
    unfold nxA nxB at q
    rw [if_neg (by omega), if_neg (by omega)] at q
    exact ⟨hbl, q, ga5 l hl hal, gb5 l hl hbl⟩
/-- another term is next -/
theorem nxt_t (hX : rCx g0 kd0 lb0 g kd lb pt m T ty va vis pA) (hP : fPt g kd lb pt m T ty va τ vis nv nc s m1 fs k c iv ar iw aw iv0 ar0 iw0 aw0) {k2 : Nat} {r : Int32} {B : Option (Int32 × mI × mA × mL × mA × mA)} {R : Option (Int32 × mI × mA)} (h1 : k2 ∈ vis) (h2 : tSc T k2 = tSc T k) (h3 : blw kd lb pt (ty k2) (ty k)) (hB : B = some (0, va_up (va_up iv 409 (nI (tPl T k2))) 410 c, ar, la, pA, pB)) (hR : R = some (r, va_up (va_up (va_up (va_up iw 71 (nI fs.length)) 73 (nI k2)) 74 c) 75 (-1), aw)) : fnO g kd lb pt m T ty va vis s fs iv0 ar0 la pA pB iw0 aw0 B R := by
  obtain ⟨hm, ⟨q1, q2, q3⟩, ⟨p1, p2, p3, p4, p5⟩, hnc, f1, f2⟩ := hP
  refine Or.inr (Or.inl ⟨τ, nv, nc, m1, k2, c, r, _, _, _, _, hB, hR, mSt_i hm ⟨rfl, rfl, rfl, rfl⟩ ⟨rfl, rfl, rfl, rfl, rfl⟩, ⟨⟨rfl, rfl, p4⟩, ⟨rfl, rfl, rfl⟩, ⟨h1, by rw [h2]; exact q2, exB_ty hX.2.2 hX.1 hm.2.1.2 (hX.2.2.2.2 k q1).2.1 (hX.2.2.2.2 k2 h1).2.1 h3 q3⟩, Or.inl rfl⟩, ?_, ?_⟩)
  · exact fRc_t f1 ⟨fun x a b c => by rw [va_up_ne _ _ (by omega), va_up_ne _ _ (by omega)], fun _ _ => rfl⟩
  · exact fRr_t f2 ⟨fun x hx => by rw [va_up_ne _ _ (by omega), va_up_ne _ _ (by omega), va_up_ne _ _ (by omega), va_up_ne _ _ (by omega)], fun _ _ => rfl⟩
/-- another term is next, with something bound -/
theorem nxt_c (hX : rCx g0 kd0 lb0 g kd lb pt m T ty va vis pA) (hP : fPt g kd lb pt m T ty va τ vis nv nc s m1 fs k c iv ar iw aw iv0 ar0 iw0 aw0) {k2 w : Nat} {y : Int32} {sc : List Nat} {B : Option (Int32 × mI × mA × mL × mA × mA)} {R : Option (Int32 × mI × mA)} (h1 : k2 ∈ vis) (h2 : tSc T k2 = k2 :: sc) (h3 : blw kd lb pt (ty k2) (ty k)) (hw : w < nv) (hb : blw kd lb pt (τ w) (va k2)) (hy : eOK kd lb pt va τ nv nc ar sc y) (hB : B = obc (mX1_add (nI w) y iv ar la pA pB) (fun r iv ar la pA pB => obc (mX4_want (nI (tPl T k2)) r iv ar la pA pB) (fun _ iv ar la pA pB => some (0, iv, ar, la, pA, pB)))) (hR : R = ob (mX12_bind (nI w) y (va_up iw 71 (nI fs.length)) aw) (fun r iw aw => ob (mX12_next (nI k2) r (-1) iw aw) (fun _ iw aw => some (-1, iw, aw)))) : fnO g kd lb pt m T ty va vis s fs iv0 ar0 la pA pB iw0 aw0 B R := by
  obtain ⟨hm, ⟨q1, q2, q3⟩, ⟨p1, p2, p3, p4, p5⟩, hnc, f1, f2⟩ := hP
  have hs4 := hm.2.2.2.1.2.2.2
  obtain ⟨x1, x2, -⟩ := cell_both (la := la) (pA := pA) (pB := pB) (x := nI w) (y := y) (show nc < 20000 by omega) hm.1.2
  unfold mX4_want at hB
  rw [x1, obce, obce] at hB
  unfold mX12_next at hR
  rw [x2, obe, obe] at hR
  refine Or.inr (Or.inl ⟨τ, nv, nc + 1, m1, k2, nI nc, -1, _, _, _, _, hB, hR, mSt_cell hX hm hnc ⟨rfl, rfl, rfl, rfl⟩ ⟨rfl, rfl, rfl, rfl, rfl⟩, ⟨⟨rfl, rfl, p4⟩, ⟨rfl, rfl, rfl⟩, ⟨h1, by rw [h2]; exact eOK_new hw hb hy, exB_ty hX.2.2 hX.1 hm.2.1.2 (hX.2.2.2.2 k q1).2.1 (hX.2.2.2.2 k2 h1).2.1 h3 q3⟩, Or.inl rfl⟩, ?_, ?_⟩)
  · exact fRc_t f1 ⟨fun x a b c => by rw [va_up_ne _ _ (by omega), va_up_ne _ _ (by omega), va_up_ne _ _ (by omega)], fun x hx => by rw [au_ne _ (by omega), au_ne _ (by omega)]⟩
  · exact fRr_t f2 ⟨fun x hx => by rw [va_up_ne _ _ (by omega), va_up_ne _ _ (by omega), va_up_ne _ _ (by omega), va_up_ne _ _ (by omega), va_up_ne _ _ (by omega)], fun x hx => by rw [au_ne _ (by omega), au_ne _ (by omega)]⟩
/-- the first value of a term, the second one -/
theorem gV0 (hX : rCx g0 kd0 lb0 g kd lb pt m T ty va vis pA) (hP : fPt g kd lb pt m T ty va τ vis nv nc s m1 fs k c iv ar iw aw iv0 ar0 iw0 aw0) (hV : gV kd lb pt T ty τ nv fs.length k iv ar aw) (hn : 0 < tNd T k) : ∃ w, w < nv ∧ nv ≤ 2000 ∧ iv 1005 = nI nv ∧ ar 406 (fs.length * 8) = nI w ∧ aw 70 (9 * nI fs.length).toNatClampNeg = nI w ∧ blw kd lb pt (τ w) (ty (tKt T k 0)) ∧ (1 = tNd T k → iv 412 = nI w) ∧ ¬ (nI w < 0 ∨ 2000 ≤ (nI w).toNatClampNeg) ∧ (nI w).toNatClampNeg = w ∧ aw 59 w = ar 1001 w := by
  obtain ⟨w, w1, w2, w3, w4, w5⟩ := hV 0 hn
  have hv := hP.1.1.1.1
  have h300 := hP.2.2.1.2.2.2.2
  refine ⟨w, w1, hv.1, hv.2.1, w2, ?_, w4, fun q => w5 (by omega), nI_in (by omega) (by decide), ncl (by omega), ((hP.1.1.1.2 w w1).2.1).symm⟩
  rw [show (9 : Int32) * nI fs.length = nI (9 * fs.length) by rw [show (9 : Int32) = nI 9 from rfl, nmul], ncl (by omega)]
  exact w3
theorem gV1 (hX : rCx g0 kd0 lb0 g kd lb pt m T ty va vis pA) (hP : fPt g kd lb pt m T ty va τ vis nv nc s m1 fs k c iv ar iw aw iv0 ar0 iw0 aw0) (hV : gV kd lb pt T ty τ nv fs.length k iv ar aw) (hn : tNd T k = 2) : ∃ w, w < nv ∧ iv 412 = nI w ∧ aw 70 ((9 * nI fs.length) + 1).toNatClampNeg = nI w ∧ blw kd lb pt (τ w) (ty (tKt T k 1)) ∧ ¬ (nI w < 0 ∨ 2000 ≤ (nI w).toNatClampNeg) ∧ (nI w).toNatClampNeg = w ∧ aw 59 w = ar 1001 w := by
  obtain ⟨w, w1, w2, w3, w4, w5⟩ := hV 1 (by omega)
  have hv := hP.1.1.1.1
  have h300 := hP.2.2.1.2.2.2.2
  refine ⟨w, w1, w5 (by omega), ?_, w4, nI_in (by omega) (by decide), ncl (by omega), ((hP.1.1.1.2 w w1).2.1).symm⟩
  rw [show (9 : Int32) * nI fs.length + 1 = nI (9 * fs.length + 1) by rw [show (9 : Int32) = nI 9 from rfl, nmul]; exact nadd _ 1, ncl (by omega)]
  exact w3
theorem g24 (hX : rCx g0 kd0 lb0 g kd lb pt m T ty va vis pA) (hP : fPt g kd lb pt m T ty va τ vis nv nc s m1 fs k c iv ar iw aw iv0 ar0 iw0 aw0) (hV : gV kd lb pt T ty τ nv fs.length k iv ar aw) {x : Int32} (hx : ar 406 (fs.length * 8) = x) (e : tWd T k = 24) : fnO g kd lb pt m T ty va vis s fs iv0 ar0 la pA pB iw0 aw0 (mX4_finish (nI (tPl T k)) x c iv ar la pA pB) (mX12_finish (nI fs.length) (nI k) iw aw) := by
  obtain ⟨w1, w2, w3, w4, w5, w6, w7, w8⟩ := b_word (la := la) (pB := pB) hX hP e
  have hkd : kd (ty k) = 2 := (hX.2.2.2.2 k hP.2.1.1).2.2.1.2.2.2.1 (Or.inr e)
  have hnk := (hX.1.2.2 k w4).1.1.2.2.2.1 (Or.inr (Or.inl e))
  have hnd : tNd T k = 2 := by unfold tNd; rw [if_neg (by omega), hnk]
  obtain ⟨a, a1, a2, a3, a4, a5, a6, a7, a8, a9, a10⟩ := gV0 hX hP hV (by omega)
  obtain ⟨b, b1, b2, b3, b4, b5, b6, b7⟩ := gV1 hX hP hV hnd
  rw [a4] at hx
  refine new_val hX hP hkd (Or.inl rfl) (x := ar 1001 a + ar 1001 b) ?_ ?_
  · rw [cfn24 w1, ← hx, v_num a1 a2 a3, obce, b2, v_num b1 a2 a3, obce]
    rfl
  · rw [rfn24 w5 w3 w2, a5, b3, if_neg a8, if_neg b5, ob_id, w6, a9, b6, a10, b7]
    rfl
theorem g25 (hX : rCx g0 kd0 lb0 g kd lb pt m T ty va vis pA) (hP : fPt g kd lb pt m T ty va τ vis nv nc s m1 fs k c iv ar iw aw iv0 ar0 iw0 aw0) (hV : gV kd lb pt T ty τ nv fs.length k iv ar aw) {x : Int32} (hx : ar 406 (fs.length * 8) = x) (e : tWd T k = 25) : fnO g kd lb pt m T ty va vis s fs iv0 ar0 la pA pB iw0 aw0 (mX4_finish (nI (tPl T k)) x c iv ar la pA pB) (mX12_finish (nI fs.length) (nI k) iw aw) := by
  obtain ⟨w1, w2, w3, w4, w5, w6, w7, w8⟩ := b_word (la := la) (pB := pB) hX hP e
  have hkd : kd (ty k) = 3 := (hX.2.2.2.2 k hP.2.1.1).2.2.1.2.2.2.2.1 (Or.inl e)
  have hnk := (hX.1.2.2 k w4).1.1.2.2.2.1 (Or.inr (Or.inr e))
  have hnd : tNd T k = 2 := by unfold tNd; rw [if_neg (by omega), hnk]
  obtain ⟨a, a1, a2, a3, a4, a5, a6, a7, a8, a9, a10⟩ := gV0 hX hP hV (by omega)
  obtain ⟨b, b1, b2, b3, b4, b5, b6, b7⟩ := gV1 hX hP hV hnd
  rw [a4] at hx
  by_cases q : ar 1001 b ≤ ar 1001 a
  · refine new_val hX hP hkd (Or.inr (Or.inl rfl)) (x := 0) ?_ ?_
    · rw [cfn25 w1, ← hx, v_num a1 a2 a3, obce, b2, v_num b1 a2 a3, obce, if_pos q]
      rfl
    · rw [rfn25 w5 w3 w2, a5, b3, if_neg a8, if_neg b5, a9, b6, a10, b7, if_pos q, ob_id, w6]
      rfl
  · refine new_val hX hP hkd (Or.inr (Or.inl rfl)) (x := 1) ?_ ?_
    · rw [cfn25 w1, ← hx, v_num a1 a2 a3, obce, b2, v_num b1 a2 a3, obce, if_neg q]
      rfl
    · rw [rfn25 w5 w3 w2, a5, b3, if_neg a8, if_neg b5, a9, b6, a10, b7, if_neg q, ob_id, w6]
      rfl
theorem g28 (hX : rCx g0 kd0 lb0 g kd lb pt m T ty va vis pA) (hP : fPt g kd lb pt m T ty va τ vis nv nc s m1 fs k c iv ar iw aw iv0 ar0 iw0 aw0) (hV : gV kd lb pt T ty τ nv fs.length k iv ar aw) {x : Int32} (hx : ar 406 (fs.length * 8) = x) (e : tWd T k = 28) : fnO g kd lb pt m T ty va vis s fs iv0 ar0 la pA pB iw0 aw0 (mX4_finish (nI (tPl T k)) x c iv ar la pA pB) (mX12_finish (nI fs.length) (nI k) iw aw) := by
  obtain ⟨w1, w2, w3, w4, w5, w6, w7, w8⟩ := b_word (la := la) (pB := pB) hX hP e
  obtain ⟨-, hty, htyR, hkids, hscv, hbd⟩ := hX.2.2.2.2 k hP.2.1.1
  obtain ⟨t1, t2⟩ := htyR.2.2.2.2.2.1 e
  have hnk := (hX.1.2.2 k w4).1.1.2.2.2.2.2.1 e
  have hnd : tNd T k = 1 := by unfold tNd; rw [if_pos (Or.inl e)]
  obtain ⟨a, a1, a2, a3, a4, a5, a6, a7, a8, a9, a10⟩ := gV0 hX hP hV (by omega)
  rw [a4] at hx
  have hsc : ∀ i, i < 3 → tSc T (tIn T k i) = tSc T k := by
    intro i hi
    rw [((hX.1.2.2 k w4).2.2 i (by rw [tAll_mn hX.1 w4]; omega)).2.1]
    unfold tNs
    exact if_neg (by omega)
  have hdo := (hP.1.2.2.2.2.2 k w4).2
  by_cases q : ar 1001 a = 1
  · refine nxt_t hX hP (k2 := tIn T k 1) (r := -1) (hkids 1 (by omega)) (hsc 1 (by decide)) t1 ?_ ?_
    · have hk1 := c_kidA (iv := iv) (ar := ar) (la := la) (pB := pB) (i := 1) hX.1 hX.2.1 w4 (by omega)
      rw [cfn28 w1, ← hx, v_num a1 a2 a3, obce, if_pos q, show (1 : Int32) = nI 1 from rfl, hk1, obce]
      unfold mX4_want
      rw [obce]
    · rw [rfn28 w5 w3 w2, a5, if_neg a8, a9, a10, if_pos q, show (9 : Int32) * nI k + 1 = nI (9 * k + 1) by rw [show (9 : Int32) = nI 9 from rfl, nmul]; exact nadd _ 1, if_neg (by first | exact nI_in (by omega) (by omega) | exact nI_inn (by omega) (by omega)), ncl (by omega), (hdo 1 (by omega)).1, w7, w6]
      unfold mX12_next
      rw [obe]
  · refine nxt_t hX hP (k2 := tIn T k 2) (r := -1) (hkids 2 (by omega)) (hsc 2 (by decide)) t2 ?_ ?_
    · have hk1 := c_kidA (iv := iv) (ar := ar) (la := la) (pB := pB) (i := 2) hX.1 hX.2.1 w4 (by omega)
      rw [cfn28 w1, ← hx, v_num a1 a2 a3, obce, if_neg q, show (2 : Int32) = nI 2 from rfl, hk1, obce]
      unfold mX4_want
      rw [obce]
    · rw [rfn28 w5 w3 w2, a5, if_neg a8, a9, a10, if_neg q, show (9 : Int32) * nI k + 2 = nI (9 * k + 2) by rw [show (9 : Int32) = nI 9 from rfl, nmul]; exact nadd _ 2, if_neg (by first | exact nI_in (by omega) (by omega) | exact nI_inn (by omega) (by omega)), ncl (by omega), (hdo 2 (by omega)).1, w7, w6]
      unfold mX12_next
      rw [obe]
theorem g22 (hX : rCx g0 kd0 lb0 g kd lb pt m T ty va vis pA) (hP : fPt g kd lb pt m T ty va τ vis nv nc s m1 fs k c iv ar iw aw iv0 ar0 iw0 aw0) (hV : gV kd lb pt T ty τ nv fs.length k iv ar aw) {x : Int32} (hx : ar 406 (fs.length * 8) = x) (e : tWd T k = 22) : fnO g kd lb pt m T ty va vis s fs iv0 ar0 la pA pB iw0 aw0 (mX4_finish (nI (tPl T k)) x c iv ar la pA pB) (mX12_finish (nI fs.length) (nI k) iw aw) := by
  obtain ⟨w1, w2, w3, w4, w5, w6, w7, w8⟩ := b_word (la := la) (pB := pB) hX hP e
  obtain ⟨-, hty, htyR, hkids, hscv, hbd⟩ := hX.2.2.2.2 k hP.2.1.1
  have hnk := (hX.1.2.2 k w4).1.1.2.2.2.1 (Or.inl e)
  have hnd : tNd T k = 2 := by unfold tNd; rw [if_neg (by omega), hnk]
  obtain ⟨a, a1, a2, a3, a4, a5, a6, a7, a8, a9, a10⟩ := gV0 hX hP hV (by omega)
  obtain ⟨b, b1, b2, b3, b4, b5, b6, b7⟩ := gV1 hX hP hV hnd
  rw [a4] at hx
  have kt : ∀ j, tKt T k j = tIn T k j := fun j => by unfold tKt tTp; rw [if_neg (by omega)]
  rw [kt] at a6 b4
  have hG := hX.2.2.1.1
  have hg2 := hX.2.2.1.2
  have hk0 := hX.2.2.2.2 _ (hkids 0 (by omega))
  have hk1 := hX.2.2.2.2 _ (hkids 1 (by omega))
  have vta := hP.1.2.1.1 a a1
  have vtb := hP.1.2.1.1 b b1
  obtain ⟨n1, n2⟩ := blw_kd hG vta.1.1 hk0.2.1 vta.1.2.2 a6
  rcases htyR.2.2.1 e with q | ⟨q4, q5, q6⟩
  · exact absurd q n1
  obtain ⟨m0, m4, -, -⟩ := n2 (by omega)
  obtain ⟨c0, c1, d0, d1, d2, d3⟩ := m4 q4
  rcases vta.2.1 (by omega) with q | ⟨k2, r1, r2, r3, r4, r5, r6, r7⟩
  · rw [m1ne (by omega)] at q
    exact q.elim
  obtain ⟨x1, x2, x3, x4, x5, x6⟩ := hX.2.2.2.2 k2 r1
  have hnk2 : tNk T k2 = 1 := ((hX.1.2.2 k2 x1).1.1.2.2.1 (Or.inl r2)).1
  obtain ⟨y1, y2, y3⟩ := x3.2.1 r2
  obtain ⟨z1, z2, -⟩ := x6 0 (by omega) (Or.inl r2)
  have hva : va (tIn T k2 0) = pt (τ a) 0 := by
    have q := z2 (Or.inl r2)
    rw [y2, ← r3] at q
    exact ((nI_eq (by omega) (by omega)).mp q).symm
  have hsc : tSc T (tIn T k2 0) = tIn T k2 0 :: tSc T k2 := by
    rw [((hX.1.2.2 k2 x1).2.2 0 (by rw [tAll_mn hX.1 x1]; omega)).2.1]
    unfold tNs
    exact if_pos (Or.inl r2)
  refine nxt_c hX hP (k2 := tIn T k2 0) (w := b) (y := ar 1004 a) (sc := tSc T k2) (x4 0 (by omega)) hsc ?_ b1 ?_ r7 ?_ ?_
  · rw [← y3, ← r3, q6]
    exact c1
  · rw [hva]
    exact blw_trans hG vtb.1.1 hk1.2.1 d0 b4 (blw_trans hG hk1.2.1 d2 d0 q5 c0)
  · rw [cfn22 w1, ← hx, v_lam a1 a2 a3, obce, r4, show (0 : Int32) = nI 0 from rfl, c_kidA hX.1 hX.2.1 x1 (by omega), obce, v_cell a1 a2 a3, obce, b2]
  · rw [rfn22 w5 w3 w2, a5, if_neg a8, if_neg a8, b3, a9, r5, w6, ← r6]
end
