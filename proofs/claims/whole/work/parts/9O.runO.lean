section
variable {g0 : Nat} {kd0 lb0 : Nat → Nat} {g : Nat} {kd lb : Nat → Nat} {pt : Nat → Nat → Nat} {m : Nat} {T : TT} {ty va τ : Nat → Nat} {vis : List Nat} {nv nc s : Nat} {pn : Int32} {fs : List (Nat × Int32 × Nat)} {k : Nat} {c : Int32} {iv : mI} {ar : mA} {la : mL} {pA pB : mA} {iw : mI} {aw : mA} {iv0 : mI} {ar0 : mA} {iw0 : mI} {aw0 : mA}
theorem v_part {w l : Nat} (hw : w < nv) (hn : nv ≤ 2000) (h : iv 1005 = nI nv) (hl : l < 8) (hc : (ar 1000 w = nI 5 ∧ ((ar 1001 w >>> (nI l &&& nI 31)) &&& nI 1) = nI 1) ∨ (ar 1000 w = nI 6 ∧ ar 1001 w = nI l)) : mX10_partOf (nI w) (nI l) iv ar la pA pB = some (ar 1002 (w * 8 + l), iv, ar, la, pA, pB) := by
  have hi : nI w * 8 + nI l = nI (w * 8 + l) := by rw [show (8 : Int32) = nI 8 from rfl, nmul, nadd]
  have h87 : mX10_partOf_J87 (nI w) (nI l) iv ar la pA pB = some (ar 1002 (w * 8 + l), iv, ar, la, pA, pB) := by
    unfold mX10_partOf_J87
    rw [hi, if_neg (by first | exact nI_in (by omega) (by omega) | exact nI_inn (by omega) (by omega)), ncl (by omega)]
  have hin : ¬ (nI w < 0 ∨ 2000 ≤ (nI w).toNatClampNeg) := nI_in (by omega) (by decide)
  unfold mX10_partOf
  rw [v_has hw hn h, obce, if_neg (show ¬ (1 : Int32) = 0 by decide), if_neg (nI_pos (show l < 2147483648 by omega)), if_pos (show nI l < (8 : Int32) from nI_lt hl (by decide)), if_neg hin]
  rcases hc with ⟨q1, q2⟩ | ⟨q1, q2⟩
  · rw [if_pos (show ar 1000 (nI w).toNatClampNeg = 5 by rw [ncl (by omega)]; exact q1), if_neg hin, if_pos (show ((ar 1001 (nI w).toNatClampNeg >>> (nI l &&& 31)) &&& 1) = 1 by rw [ncl (by omega)]; exact q2)]
    unfold mX10_partOf_J49
    rw [if_neg hin, if_neg (show ¬ ar 1000 (nI w).toNatClampNeg = 6 by rw [ncl (by omega), q1]; decide)]
    unfold mX10_partOf_J76
    rw [if_neg (show ¬ (1 : Int32) = 0 by decide), h87]
  · rw [if_neg (show ¬ ar 1000 (nI w).toNatClampNeg = 5 by rw [ncl (by omega), q1]; decide)]
    unfold mX10_partOf_J49
    rw [if_neg hin, if_pos (show ar 1000 (nI w).toNatClampNeg = 6 by rw [ncl (by omega), q1]; rfl), if_neg hin, if_pos (show ar 1001 (nI w).toNatClampNeg = nI l by rw [ncl (by omega), q2])]
    unfold mX10_partOf_J76
    rw [if_pos rfl, if_neg (show ¬ (1 : Int32) = 0 by decide), h87]
theorem v_set {w l : Nat} {x : Int32} (hw : w < nv) (hn : nv ≤ 2000) (h : iv 1005 = nI nv) (hl : l < 8) : mX10_setPart (nI w) (nI l) x iv ar la pA pB = some (0, iv, au ar 1002 (w * 8 + l) x, la, pA, pB) := by
  have hi : nI w * 8 + nI l = nI (w * 8 + l) := by rw [show (8 : Int32) = nI 8 from rfl, nmul, nadd]
  unfold mX10_setPart
  rw [v_has hw hn h, obce, if_neg (show ¬ (1 : Int32) = 0 by decide), if_neg (nI_pos (show l < 2147483648 by omega)), if_neg (show ¬ (8 : Int32) ≤ nI l from nI_ge hl (by decide)), hi, if_neg (by first | exact nI_in (by omega) (by omega) | exact nI_inn (by omega) (by omega)), ncl (by omega)]
theorem v_set1 {y x : Int32} : mX10_setPart (-1) y x iv ar la pA pB = some (0, iv, ar, la, pA, pB) := by
  unfold mX10_setPart
  rw [v_has1, obce, if_pos rfl]
/-- a part of a record -/
theorem g30 (hX : rCx g0 kd0 lb0 g kd lb pt m T ty va vis pA) (hP : fPt g kd lb pt m T ty va τ vis nv nc s m1 fs k c iv ar iw aw iv0 ar0 iw0 aw0) (hV : gV kd lb pt T ty τ nv fs.length k iv ar aw) {x : Int32} (hx : ar 406 (fs.length * 8) = x) (e : tWd T k = 30) : fnO g kd lb pt m T ty va vis s fs iv0 ar0 la pA pB iw0 aw0 (mX4_finish (nI (tPl T k)) x c iv ar la pA pB) (mX12_finish (nI fs.length) (nI k) iw aw) := by
  obtain ⟨w1, w2, w3, w4, w5, w6, w7, w8⟩ := b_word (la := la) (pB := pB) hX hP e
  obtain ⟨-, hty, htyR, hkids, hscv, hbd⟩ := hX.2.2.2.2 k hP.2.1.1
  have hnk := ((hX.1.2.2 k w4).1.1.2.2.2.2.2.2.2.1 e).1
  have hnd : tNd T k = 1 := by unfold tNd; rw [if_neg (by omega), hnk]
  obtain ⟨a, a1, a2, a3, a4, a5, a6, a7, a8, a9, a10⟩ := gV0 hX hP hV (by omega)
  rw [a4] at hx
  have kt : ∀ j, tKt T k j = tIn T k j := fun j => by unfold tKt tTp; rw [if_neg (by omega)]
  rw [kt] at a6
  have hG := hX.2.2.1.1
  have hg2 := hX.2.2.1.2
  have hk0 := hX.2.2.2.2 _ (hkids 0 (by omega))
  have vta := hP.1.2.1.1 a a1
  obtain ⟨n1, n2⟩ := blw_kd hG vta.1.1 hk0.2.1 vta.1.2.2 a6
  rcases htyR.2.2.2.2.2.2.2.1 e with q | ⟨l, q1, q2, q3, q4, q5⟩
  · exact absurd q n1
  obtain ⟨m0, -, m5, -⟩ := n2 (by omega)
  obtain ⟨c0, c1, c2, c3⟩ := m5 q3 l q2 q4
  obtain ⟨L, r1, r2, r3⟩ := vta.2.2.1 (by omega)
  obtain ⟨r4, b, r5, r6, r7⟩ := r3 l q2 c0
  have hcond : (ar 1000 a = nI 5 ∧ ((ar 1001 a >>> (nI l &&& nI 31)) &&& nI 1) = nI 1) ∨ (ar 1000 a = nI 6 ∧ ar 1001 a = nI l) := Or.inl ⟨by rw [vta.1.2.1, m0, q3], by rw [r2, bitn r1 q2]; exact r4⟩
  have h60 := (hP.1.1.1.2 a a1).2.2 l q2
  rw [if_pos hcond] at h60
  obtain ⟨y1, y2⟩ := (hX.2.1.2 k w4).1.2.1.2.1 e
  have hw1 : mX6_wordA (nI (tPl T k) + 1) iv ar la pA pB = some (nI l, iv, ar, la, pA, pB) := by
    have := c_word1A (iv := iv) (ar := ar) (la := la) (pA := pA) (pB := pB) (p := tPl T k) (d := 1) y1
    rw [y2, q1] at this
    exact this
  have hB : mX4_finish (nI (tPl T k)) x c iv ar la pA pB = some (0, va_up (va_up iv 409 (-1)) 412 (nI b), ar, la, pA, pB) := by
    rw [cfn30 w1, hw1, obce, ← hx, v_part a1 a2 a3 q2 hcond, obce]
    unfold mX4_give
    rw [obce, r6]
  have hR : mX12_finish (nI fs.length) (nI k) iw aw = some (nI b, va_up iw 71 (nI fs.length), aw) := by
    rw [rfn30 w5 w3 w2, ob_id, rfm30 w3 w2, a5, if_neg (by first | exact nI_in (by omega) (by omega) | exact nI_inn (by omega) (by omega)), ncl (show k < 2147483648 by omega), (hP.1.2.2.2.2.2 k w4).1.2.2.1, q1, show (8 : Int32) * nI a + nI l = nI (8 * a + l) by rw [show (8 : Int32) = nI 8 from rfl, nmul, nadd], if_neg (by first | exact nI_in (by omega) (by omega) | exact nI_inn (by omega) (by omega)), ncl (by omega), h60, r6, w6]
  obtain ⟨hm, ⟨k1, k2, k3⟩, ⟨p1, p2, p3, p4, p5⟩, hnc, f1, f2⟩ := hP
  have vtb := hm.2.1.1 b r5
  refine Or.inl ⟨τ, nv, nc, b, _, _, _, _, hB, hR, mSt_i hm ⟨rfl, rfl, rfl, rfl⟩ ⟨rfl, rfl, rfl, rfl, rfl⟩, ⟨⟨rfl, rfl, p4⟩, p2, r5, exB_ty hX.2.2 hX.1 hm.2.1.2 hty vtb.1.1 ?_ k3⟩, ?_, ?_⟩
  · rw [q5]
    exact blw_trans hG vtb.1.1 c2 c3 r7 c1
  · exact fRc_t f1 ⟨fun x a b c => by rw [va_up_ne _ _ (by omega), va_up_ne _ _ (by omega)], fun _ _ => rfl⟩
  · exact fRr_t f2 ⟨fun x hx => by rw [va_up_ne _ _ (by omega)], fun _ _ => rfl⟩
/-- a choice -/
theorem g31 (hX : rCx g0 kd0 lb0 g kd lb pt m T ty va vis pA) (hP : fPt g kd lb pt m T ty va τ vis nv nc s m1 fs k c iv ar iw aw iv0 ar0 iw0 aw0) (hV : gV kd lb pt T ty τ nv fs.length k iv ar aw) {x : Int32} (hx : ar 406 (fs.length * 8) = x) (e : tWd T k = 31) : fnO g kd lb pt m T ty va vis s fs iv0 ar0 la pA pB iw0 aw0 (mX4_finish (nI (tPl T k)) x c iv ar la pA pB) (mX12_finish (nI fs.length) (nI k) iw aw) := by
  obtain ⟨w1, w2, w3, w4, w5, w6, w7, w8⟩ := b_word (la := la) (pB := pB) hX hP e
  obtain ⟨-, hty, htyR, hkids, hscv, hbd⟩ := hX.2.2.2.2 k hP.2.1.1
  have hnk := ((hX.1.2.2 k w4).1.1.2.2.2.2.2.2.2.2.1 e).1
  have hnd : tNd T k = 1 := by unfold tNd; rw [if_neg (by omega), hnk]
  obtain ⟨a, a1, a2, a3, a4, a5, a6, a7, a8, a9, a10⟩ := gV0 hX hP hV (by omega)
  rw [a4] at hx
  have kt : ∀ j, tKt T k j = tIn T k j := fun j => by unfold tKt tTp; rw [if_neg (by omega)]
  rw [kt] at a6
  have hG := hX.2.2.1.1
  have hk0 := hX.2.2.2.2 _ (hkids 0 (by omega))
  have vta := hP.1.2.1.1 a a1
  obtain ⟨l, -, q1, q2, q3, q4, q5⟩ := htyR.2.2.2.2.2.2.2.2.1 e
  have hpt := (hG (ty k) hty).2.2.2.2 l q2 q4
  obtain ⟨y1, y2⟩ := (hX.2.1.2 k w4).1.2.1.2.2 e
  have hw1 : mX6_wordA (nI (tPl T k) + 2) iv ar la pA pB = some (nI l, iv, ar, la, pA, pB) := by
    have := c_word1A (iv := iv) (ar := ar) (la := la) (pA := pA) (pB := pB) (p := tPl T k) (d := 2) y1
    rw [y2, q1] at this
    exact this
  have h42 := (hP.1.2.2.2.2.2 k w4).1.2.2.1
  rw [q1] at h42
  obtain ⟨hm, ⟨k1, k2, k3⟩, ⟨p1, p2, p3, p4, p5⟩, hnc, f1, f2⟩ := hP
  have hv := hm.1.1.1
  rcases newV_both (K := 6) (x := nI l) (ar := ar) (la := la) (pA := pA) (pB := pB) (aw := aw) hv.1 hv.2.1 hv.2.2 with ⟨hn, aw2, e1, e2, b1, b2, b3, b4, b5⟩ | ⟨hn, e1, e2⟩
  · have hB : mX4_finish (nI (tPl T k)) x c iv ar la pA pB = some (0, va_up (va_up (va_up iv 1005 (nI (nv + 1))) 409 (-1)) 412 (nI nv), au (au (au (au (au ar 1000 nv (nI 6)) 1001 nv (nI l)) 1003 nv (-1)) 1004 nv (-1)) 1002 (nv * 8 + l) (nI a), la, pA, pB) := by
      rw [cfn31 w1, hw1, obce]
      unfold mX4_tag mX4_give
      rw [show (6 : Int32) = nI 6 from rfl, e1, obce, v_set (nv := nv + 1) (Nat.lt_succ_self _) (by omega) rfl q2, obce, obce, obce, hx]
    have hR : mX12_finish (nI fs.length) (nI k) iw aw = some (nI nv, va_up (va_up iw 71 (nI fs.length)) 56 (nI (nv + 1)), au aw2 60 (8 * nv + l) (nI a)) := by
      rw [rfn31 w5 w3 w2, ob_id, rfm31 w3 w2, a5, if_neg (by first | exact nI_in (by omega) (by omega) | exact nI_inn (by omega) (by omega)), ncl (show k < 2147483648 by omega), h42, w6, show (6 : Int32) = nI 6 from rfl, e2, obe, if_neg (nI_pos (show nv < 2147483648 by omega)), if_neg (nI_inn (a := k) (N := 200) w3 (by omega)), b1 42 (by decide) (by decide) (by decide), h42, show (8 : Int32) * nI nv + nI l = nI (8 * nv + l) by rw [show (8 : Int32) = nI 8 from rfl, nmul, nadd], if_neg (by first | exact nI_in (by omega) (by omega) | exact nI_inn (by omega) (by omega)), ncl (by omega)]
    have r1000 : (au (au (au (au (au ar 1000 nv (nI 6)) 1001 nv (nI l)) 1003 nv (-1)) 1004 nv (-1)) 1002 (nv * 8 + l) (nI a)) 1000 nv = nI 6 := by simp [aur]
    have r1001 : (au (au (au (au (au ar 1000 nv (nI 6)) 1001 nv (nI l)) 1003 nv (-1)) 1004 nv (-1)) 1002 (nv * 8 + l) (nI a)) 1001 nv = nI l := by simp [aur]
    refine Or.inl ⟨fun w => if w = nv then ty k else τ w, nv + 1, nc, nv, _, _, _, _, hB, hR, mSt_new (pn2 := m1) hX hm hn hty (by omega) ⟨rfl, rfl, rfl, rfl⟩ ⟨rfl, rfl, rfl, rfl, rfl⟩ (fun r hr => ?_) (fun v hv => ?_) (fun r hr => ?_) (fun v hv => ?_) ?_ ?_ ?_ (fun l2 hl2 => ?_) (fun q => by omega) (fun q => by omega) (fun _ => ⟨l, a, q2, r1001, q4, a1, ?_, ?_⟩), ⟨⟨rfl, rfl, p4⟩, p2, Nat.lt_succ_self _, ?_⟩, ?_, ?_⟩
    · rw [au_ne _ (by omega), au_ne _ (by omega), au_ne _ (by omega), au_ne _ (by omega), au_ne _ (by omega)]
    · refine ⟨by simp [aur, show ¬ v = nv by omega], by simp [aur, show ¬ v = nv by omega], by simp [aur, show ¬ v = nv by omega], by simp [aur, show ¬ v = nv by omega], fun l2 hl2 => ?_⟩
      rw [au_ni _ (by omega)]
      rfl
    · rw [au_ne _ (by omega), b1 r (by omega) (by omega) (by omega)]
    · rw [au_ne _ (by decide), au_ne _ (by decide), au_ne _ (by decide), au_ne _ (by decide), b2 v, b3 v, b1 61 (by decide) (by decide) (by decide), b1 62 (by decide) (by decide) (by decide), if_neg (by omega), if_neg (by omega)]
      refine ⟨rfl, rfl, rfl, rfl, fun l2 hl2 => ?_⟩
      rw [au_ni _ (by omega)]
      exact b4 _ (by omega)
    · rw [q3, r1000]
    · rw [q3, au_ne _ (by decide), b2, if_pos rfl]
    · rw [r1001, au_ne _ (by decide), b3, if_pos rfl]
    · rw [r1000, r1001]
      by_cases el : l2 = l
      · rw [el, if_pos (Or.inr ⟨rfl, rfl⟩), au_self, au_self]
      · rw [au_ni _ (by omega), b5 l2 hl2, if_neg]
        rintro (⟨q, -⟩ | ⟨-, q⟩)
        · exact absurd q (by decide)
        · exact el ((nI_eq (by omega) (by omega)).mp q).symm
    · rw [au_self]
    · exact blw_trans hG vta.1.1 hk0.2.1 hpt a6 q5
    · show exB kd lb pt T ty (if nv = nv then ty k else τ nv) fs
      rw [if_pos rfl]
      exact k3
    · exact fRc_t f1 ⟨fun x a b c => by rw [va_up_ne _ _ (by omega), va_up_ne _ _ (by omega), va_up_ne _ _ (by omega)], fun x hx => by rw [au_ne _ (by omega), au_ne _ (by omega), au_ne _ (by omega), au_ne _ (by omega), au_ne _ (by omega)]⟩
    · exact fRr_t f2 ⟨fun x hx => by rw [va_up_ne _ _ (by omega), va_up_ne _ _ (by omega)], fun x hx => by rw [au_ne _ (by omega), b1 x (by omega) (by omega) (by omega)]⟩
  · have hB : mX4_finish (nI (tPl T k)) x c iv ar la pA pB = some (0, va_up (va_up iv 409 (-1)) 412 (-1), ar, la, pA, pB) := by
      rw [cfn31 w1, hw1, obce]
      unfold mX4_tag mX4_give
      rw [show (6 : Int32) = nI 6 from rfl, e1, obce, v_set1, obce, obce, obce]
    have hR : mX12_finish (nI fs.length) (nI k) iw aw = some (-1, va_up (va_up iw 71 (nI fs.length)) 72 m16, aw) := by
      rw [rfn31 w5 w3 w2, ob_id, rfm31 w3 w2, a5, if_neg (by first | exact nI_in (by omega) (by omega) | exact nI_inn (by omega) (by omega)), ncl (show k < 2147483648 by omega), h42, w6, show (6 : Int32) = nI 6 from rfl, e2, obe, if_pos (show (-1 : Int32) < 0 by decide)]
    refine Or.inr (Or.inr ⟨nv, _, _, _, _, _, hB, hR, rfl, rfl, p2, rfl, hm.1.1, ?_, ?_, ?_⟩)
    · show iv 408 = iw 57
      rw [hm.2.2.2.1.1]
      exact hm.2.2.2.1.2.1.symm
    · exact fRc_t f1 ⟨fun x a b c => by rw [va_up_ne _ _ (by omega), va_up_ne _ _ (by omega)], fun _ _ => rfl⟩
    · exact fRr_t f2 ⟨fun x hx => by rw [va_up_ne _ _ (by omega), va_up_ne _ _ (by omega)], fun _ _ => rfl⟩
/-- the case of a choice, in both -/
theorem case_both (hX : rCx g0 kd0 lb0 g kd lb pt m T ty va vis pA) (hdo : tDo m T aw) (hk : k < m) (e : tWd T k = 32) {a l i0 : Nat} (ha : a < 2000) (hl : l < 8) (h59 : aw 59 a = nI l) (hi0 : i0 + 1 < tNk T k) (hla : tLa T k i0 = l) : ∀ (d i n1 n2 : Nat), i0 - i = d → i ≤ i0 → d < n1 → d < n2 → ∃ j, j + 1 < tNk T k ∧ tLa T k j = l ∧ mX4_caseFor_L2 n1 (nI (tPl T k)) (nI l) (nI i) iv ar la pA pB = some (nI (tPl T (tIn T k j)), iv, ar, la, pA, pB) ∧ mX12_finishMore_L187 n2 (nI k) c (nI a) (nI i) iw aw = ob (mX12_bind (aw 60 (8 * a + l)) c iw aw) (fun r iw aw => ob (mX12_next (nI (tIn T k j)) r (-1) iw aw) (fun _ iw aw => some (-1, iw, aw))) := by
  have h9 := hOK9 (hX.1.2.2 k hk).1.1
  have hk2 : k < 200 := Nat.lt_of_lt_of_le hk hX.1.2.1
  have step : ∀ (i n1 n2 : Nat), i + 1 < tNk T k → mX4_caseFor_L2 (n1 + 1) (nI (tPl T k)) (nI l) (nI i) iv ar la pA pB = (if tLa T k i = l then some (nI (tPl T (tIn T k i)), iv, ar, la, pA, pB) else mX4_caseFor_L2 n1 (nI (tPl T k)) (nI l) (nI (i + 1)) iv ar la pA pB) ∧ mX12_finishMore_L187 (n2 + 1) (nI k) c (nI a) (nI i) iw aw = (if tLa T k i = l then ob (mX12_bind (aw 60 (8 * a + l)) c iw aw) (fun r iw aw => ob (mX12_next (nI (tIn T k i)) r (-1) iw aw) (fun _ iw aw => some (-1, iw, aw))) else mX12_finishMore_L187 n2 (nI k) c (nI a) (nI (i + 1)) iw aw) := by
    intro i n1 n2 hi
    have hld : tLd T k i := Or.inr ⟨e, hi⟩
    have hla8 := (((hX.1.2.2 k hk).2.2 i (by rw [tAll_mn hX.1 hk]; omega)).2.2.1 hld).1
    obtain ⟨d1, d2⟩ := (hdo k hk).2 i (by omega)
    constructor
    · conv => lhs; rw [mX4_caseFor_L2]
      rw [c_countA hX.1 hX.2.1 hk, obce, show nI (tNk T k) - 1 = nI (tNk T k - 1) by rw [show tNk T k = (tNk T k - 1) + 1 by omega, nsub1, Nat.add_sub_cancel], if_neg (nI_ge (show i < tNk T k - 1 by omega) (by omega)), c_kidA hX.1 hX.2.1 hk (by omega), obce, c_labelA hX.1 hX.2.1 hk (by omega) hld, obce]
      by_cases q : tLa T k i = l
      · rw [if_pos (show nI (tLa T k i) = nI l by rw [q]), if_pos q, c_kidA hX.1 hX.2.1 hk (by omega), obce]
      · rw [if_neg (show ¬ nI (tLa T k i) = nI l from fun q2 => q ((nI_eq (by omega) (by omega)).mp q2)), if_neg q, show nI i + 1 = nI (i + 1) from nadd _ 1]
    · conv => lhs; rw [mX12_finishMore_L187]
      rw [show (9 : Int32) * nI k + nI i = nI (9 * k + i) by rw [show (9 : Int32) = nI 9 from rfl, nmul, nadd], if_neg (nI_in (c := 9 * k + i) (N := 1800) (by omega) (by decide)), if_neg (nI_in (c := a) (N := 2000) (by omega) (by decide)), ncl (show 9 * k + i < 2147483648 by omega), ncl (show a < 2147483648 by omega), h59, d2 hld]
      by_cases q : tLa T k i = l
      · rw [if_pos (show nI (tLa T k i) = nI l by rw [q]), if_pos q, if_neg (nI_inn (a := 9 * k + i) (N := 1800) (by omega) (by omega)), if_neg (nI_inn (a := a) (N := 2000) (by omega) (by omega)), show (8 : Int32) * nI a + nI l = nI (8 * a + l) by rw [show (8 : Int32) = nI 8 from rfl, nmul, nadd], if_neg (nI_in (c := 8 * a + l) (N := 16000) (by omega) (by decide)), ncl (show 8 * a + l < 2147483648 by omega), d1]
      · rw [if_neg (show ¬ nI (tLa T k i) = nI l from fun q2 => q ((nI_eq (by omega) (by omega)).mp q2)), if_neg q, show nI i + 1 = nI (i + 1) from nadd _ 1]
  intro d
  induction d with
  | zero =>
    intro i n1 n2 hd hi h1 h2
    obtain ⟨n1, rfl⟩ : ∃ x, n1 = x + 1 := ⟨n1 - 1, by omega⟩
    obtain ⟨n2, rfl⟩ : ∃ x, n2 = x + 1 := ⟨n2 - 1, by omega⟩
    have ei : i = i0 := by omega
    subst ei
    obtain ⟨s1, s2⟩ := step i n1 n2 hi0
    rw [if_pos hla] at s1 s2
    exact ⟨i, hi0, hla, s1, s2⟩
  | succ d ih =>
    intro i n1 n2 hd hi h1 h2
    obtain ⟨n1, rfl⟩ : ∃ x, n1 = x + 1 := ⟨n1 - 1, by omega⟩
    obtain ⟨n2, rfl⟩ : ∃ x, n2 = x + 1 := ⟨n2 - 1, by omega⟩
    obtain ⟨s1, s2⟩ := step i n1 n2 (by omega)
    by_cases q : tLa T k i = l
    · rw [if_pos q] at s1 s2
      exact ⟨i, by omega, q, s1, s2⟩
    · rw [if_neg q] at s1 s2
      rw [s1, s2]
      exact ih (i + 1) n1 n2 (by omega) (by omega) (by omega) (by omega)
theorem g32 (hX : rCx g0 kd0 lb0 g kd lb pt m T ty va vis pA) (hP : fPt g kd lb pt m T ty va τ vis nv nc s m1 fs k c iv ar iw aw iv0 ar0 iw0 aw0) (hV : gV kd lb pt T ty τ nv fs.length k iv ar aw) {x : Int32} (hx : ar 406 (fs.length * 8) = x) (e : tWd T k = 32) : fnO g kd lb pt m T ty va vis s fs iv0 ar0 la pA pB iw0 aw0 (mX4_finish (nI (tPl T k)) x c iv ar la pA pB) (mX12_finish (nI fs.length) (nI k) iw aw) := by
  obtain ⟨w1, w2, w3, w4, w5, w6, w7, w8⟩ := b_word (la := la) (pB := pB) hX hP e
  obtain ⟨-, hty, htyR, hkids, hscv, hbd⟩ := hX.2.2.2.2 k hP.2.1.1
  have hnk := (hX.1.2.2 k w4).1.1.2.2.2.2.2.2.2.2.2 e
  have hnd : tNd T k = 1 := by unfold tNd; rw [if_pos (Or.inr e)]
  obtain ⟨a, a1, a2, a3, a4, a5, a6, a7, a8, a9, a10⟩ := gV0 hX hP hV (by omega)
  rw [a4] at hx
  have kt : tKt T k 0 = tIn T k (tNk T k - 1) := by unfold tKt tTp; rw [if_pos e, if_pos rfl]
  rw [kt] at a6
  have hG := hX.2.2.1.1
  have hk0 := hX.2.2.2.2 _ (hkids (tNk T k - 1) (by omega))
  have vta := hP.1.2.1.1 a a1
  obtain ⟨n1, n2⟩ := blw_kd hG vta.1.1 hk0.2.1 vta.1.2.2 a6
  obtain ⟨t1, t2⟩ := htyR.2.2.2.2.2.2.2.2.2.1 e
  rcases t1 with q | ⟨q3, q4⟩
  · exact absurd q n1
  obtain ⟨m0, -, -, m6⟩ := n2 (by omega)
  obtain ⟨l, b, r1, r2, r3, r4, r5, r6⟩ := vta.2.2.2 (by omega)
  obtain ⟨c0, c1, c2, c3⟩ := m6 q3 l r1 r3
  obtain ⟨i0, i1, i2⟩ := q4 l r1 c0
  have hcond : (ar 1000 a = nI 5 ∧ ((ar 1001 a >>> (nI l &&& nI 31)) &&& nI 1) = nI 1) ∨ (ar 1000 a = nI 6 ∧ ar 1001 a = nI l) := Or.inr ⟨by rw [vta.1.2.1, m0, q3], r2⟩
  have h60 := (hP.1.1.1.2 a a1).2.2 l r1
  rw [if_pos hcond, r5] at h60
  obtain ⟨F, hF, hFF⟩ : ∃ F, bigF = F + 1 ∧ 5000 < F := ⟨999999, rfl, by omega⟩
  have h9 := hOK9 (hX.1.2.2 k w4).1.1
  obtain ⟨j, j1, j2, j3, j4⟩ := case_both (iv := iv) (ar := ar) (la := la) (pB := pB) (iw := va_up iw 71 (nI fs.length)) (c := c) hX hP.1.2.2.2.2.2 w4 e (show a < 2000 by omega) r1 (by rw [a10, r2]) i1 i2 i0 0 bigF bigF (by omega) (by omega) (by omega) (by omega)
  have hld : tBd T k j := Or.inr (Or.inr ⟨e, j1⟩)
  obtain ⟨z1, -, z2⟩ := hbd j (by omega) hld
  have hva := z2 e j1 q3 (by rw [j2]; exact c0)
  have hsc : tSc T (tIn T k j) = tIn T k j :: tSc T k := by
    rw [((hX.1.2.2 k w4).2.2 j (by rw [tAll_mn hX.1 w4]; omega)).2.1]
    unfold tNs
    exact if_pos (Or.inr (Or.inr ⟨e, j1⟩))
  have vtb := hP.1.2.1.1 b r4
  refine nxt_c hX hP (k2 := tIn T k j) (w := b) (y := c) (sc := tSc T k) (hkids j (by omega)) hsc (t2 j j1) r4 ?_ hP.2.1.2.1 ?_ ?_
  · rw [hva, j2]
    exact blw_trans hG vtb.1.1 c2 c3 r6 c1
  · rw [cfn32 w1, ← hx, v_num a1 a2 a3, obce, r2]
    unfold mX4_caseFor
    rw [show (0 : Int32) = nI 0 from rfl, j3, obce]
    unfold mX4_partOfChoice
    rw [v_num a1 a2 a3, obce, r2, v_part a1 a2 a3 r1 hcond, obce, obce, r5]
  · rw [rfn32 w5 w3 w2, ob_id, rfm32 w3 w2, a5, w6, w7, show (0 : Int32) = nI 0 from rfl, j4, h60]
end
