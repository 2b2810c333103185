section
variable {g0 : Nat} {kd0 lb0 : Nat → Nat} {g : Nat} {kd lb : Nat → Nat} {pt : Nat → Nat → Nat} {m : Nat} {T : TT} {ty va τ : Nat → Nat} {vis : List Nat} {nv nc s : Nat} {pn : Int32} {fs : List (Nat × Int32 × Nat)} {k : Nat} {c : Int32} {iv : mI} {ar : mA} {la : mL} {pA pB : mA} {iw : mI} {aw : mA} {iv0 : mI} {ar0 : mA} {iw0 : mI} {aw0 : mA}
theorem mSt_i (h : mSt g kd lb pt m T ty va τ vis nv nc s pn fs iv ar iw aw) {iv2 iw2 : mI} (i1 : iv2 1005 = iv 1005 ∧ iv2 102 = iv 102 ∧ iv2 407 = iv 407 ∧ iv2 408 = iv 408) (i2 : iw2 56 = iw 56 ∧ iw2 65 = iw 65 ∧ iw2 71 = iw 71 ∧ iw2 57 = iw 57 ∧ iw2 72 = iw 72) : mSt g kd lb pt m T ty va τ vis nv nc s pn fs iv2 ar iw2 aw := by
  obtain ⟨⟨⟨⟨v1, v2, v3⟩, v4⟩, ⟨c1, c2⟩, c3⟩, hb, ⟨o1, o2, o3⟩, ⟨s1, s2, s3, s4⟩, z1, z2⟩ := h
  exact ⟨⟨⟨⟨v1, by rw [i1.1]; exact v2, by rw [i2.1]; exact v3⟩, v4⟩, ⟨by rw [i1.2.1]; exact c1, by rw [i2.2.1]; exact c2⟩, c3⟩, hb, ⟨by rw [i1.2.2.1]; exact o1, by rw [i2.2.2.1]; exact o2, o3⟩, ⟨by rw [i1.2.2.2]; exact s1, by rw [i2.2.2.2.1]; exact s2, s3, s4⟩, by rw [i2.2.2.2.2]; exact z1, z2⟩
/-- something more is bound -/
theorem mSt_cell (hX : rCx g0 kd0 lb0 g kd lb pt m T ty va vis pA) (h : mSt g kd lb pt m T ty va τ vis nv nc s pn fs iv ar iw aw) (hnc : nc + fs.length < s) {iv2 iw2 : mI} {x y : Int32} (i1 : iv2 1005 = iv 1005 ∧ iv2 102 = nI (nc + 1) ∧ iv2 407 = iv 407 ∧ iv2 408 = iv 408) (i2 : iw2 56 = iw 56 ∧ iw2 65 = nI (nc + 1) ∧ iw2 71 = iw 71 ∧ iw2 57 = iw 57 ∧ iw2 72 = iw 72) : mSt g kd lb pt m T ty va τ vis nv (nc + 1) s pn fs iv2 (au (au ar 100 nc x) 101 nc y) iw2 (au (au aw 63 nc x) 64 nc y) := by
  obtain ⟨⟨⟨⟨v1, v2, v3⟩, v4⟩, ⟨c1, c2⟩, c3⟩, ⟨b3, b4⟩, ⟨o1, o2, o3⟩, ⟨s1, s2, s3, s4⟩, z1, z2⟩ := h
  have hcell : ∀ i, i < nc → (au (au ar 100 nc x) 101 nc y) 100 i = ar 100 i ∧ (au (au ar 100 nc x) 101 nc y) 101 i = ar 101 i := fun i hi => by
    rw [au_ne _ (by decide), au_ni _ (by omega), au_ni _ (by omega), au_ne _ (by decide)]
    exact ⟨rfl, rfl⟩
  have hr : ∀ r, r ≠ 100 → r ≠ 101 → (au (au ar 100 nc x) 101 nc y) r = ar r := fun r r1 r2 => by rw [au_ne _ r2, au_ne _ r1]
  have hw : ∀ r, r ≠ 63 → r ≠ 64 → (au (au aw 63 nc x) 64 nc y) r = aw r := fun r r1 r2 => by rw [au_ne _ r2, au_ne _ r1]
  refine ⟨⟨⟨⟨v1, by rw [i1.1]; exact v2, by rw [i2.1]; exact v3⟩, v4⟩, ⟨i1.2.1, i2.2.1⟩, fun i hi => ?_⟩, ⟨fun w hw => vT_up (ar := ar) (aw := aw) (τ := τ) (pn := pn) b3 (Nat.le_refl _) (Nat.le_succ _) hcell (fun _ _ => rfl) (fun v hv => ⟨rfl, rfl, fun _ => ⟨rfl, rfl, rfl, rfl⟩, fun _ _ => rfl⟩) hw (fun q => Or.inl q), fO_up (ar := ar) (aw := aw) (τ := τ) (Nat.le_refl _) (Nat.le_succ _) hcell (fun _ _ => rfl) fs (fun i _ => ⟨rfl, rfl, rfl, rfl, rfl, rfl⟩) (fun i _ => rfl) (fun i _ => rfl) (fO_n9 hX.1 hX.2.2 fs b4) b4⟩, ⟨by rw [i1.2.2.1]; exact o1, by rw [i2.2.2.1]; exact o2, o3⟩, ⟨by rw [i1.2.2.2]; exact s1, by rw [i2.2.2.2.1]; exact s2, by omega, s4⟩, by rw [i2.2.2.2.2]; exact z1, z2⟩
  by_cases e : i = nc
  · subst e
    rw [au_ne _ (by decide), au_self, au_ne _ (by decide), au_self, au_self, au_self]
    exact ⟨rfl, rfl⟩
  · rw [(hcell i (by omega)).1, (hcell i (by omega)).2, au_ne _ (by decide), au_ni _ e, au_ni _ e, au_ne _ (by decide)]
    exact c3 i (by omega)
theorem eOK_new {h w : Nat} {sc : List Nat} {y : Int32} (hw : w < nv) (hb : blw kd lb pt (τ w) (va h)) (he : eOK kd lb pt va τ nv nc ar sc y) : eOK kd lb pt va τ nv (nc + 1) (au (au ar 100 nc (nI w)) 101 nc y) (h :: sc) (nI nc) := by
  refine ⟨nc, w, Nat.lt_succ_self _, rfl, hw, by rw [au_ne _ (by decide), au_self], hb, ?_⟩
  rw [au_self]
  refine eOK_up (Nat.le_refl _) (Nat.le_succ _) (fun i hi => ?_) (fun _ _ => rfl) _ _ he
  rw [au_ne _ (by decide), au_ni _ (by omega), au_ni _ (by omega), au_ne _ (by decide)]
  exact ⟨rfl, rfl⟩
theorem eOK_r {ar2 : mA} {sc : List Nat} {y : Int32} (h0 : ar2 100 = ar 100) (h1 : ar2 101 = ar 101) (he : eOK kd lb pt va τ nv nc ar sc y) : eOK kd lb pt va τ nv nc ar2 sc y := eOK_up (Nat.le_refl _) (Nat.le_refl _) (fun i _ => by rw [h0, h1]; exact ⟨rfl, rfl⟩) (fun _ _ => rfl) _ _ he
theorem vT_r {ar2 aw2 : mA} (h : vT g kd lb pt T ty va τ vis nv nc pn ar aw) (h0 : ∀ r, r = 100 ∨ r = 101 ∨ 1000 ≤ r → ar2 r = ar r) (h1 : aw2 61 = aw 61) (h2 : aw2 62 = aw 62) : vT g kd lb pt T ty va τ vis nv nc pn ar2 aw2 := fun w hw => vT_up (ar := ar) (aw := aw) (τ := τ) (pn := pn) h (Nat.le_refl _) (Nat.le_refl _) (fun i _ => by rw [h0 100 (by omega), h0 101 (by omega)]; exact ⟨rfl, rfl⟩) (fun _ _ => rfl) (fun v _ => by rw [h0 1000 (by omega), h0 1001 (by omega), h0 1002 (by omega), h0 1003 (by omega), h0 1004 (by omega), h1, h2]; exact ⟨rfl, rfl, fun _ => ⟨rfl, rfl, rfl, rfl⟩, fun _ _ => rfl⟩) hw (fun q => Or.inl q)
/-- a term that is due is begun, in both -/
theorem d_pt (hX : rCx g0 kd0 lb0 g kd lb pt m T ty va vis pA) (h : mSt g kd lb pt m T ty va τ vis nv nc s pn fs iv ar iw aw) (hd : dSt kd lb pt T ty va τ vis nv nc pn fs k c iv ar iw) {n n2 lim t : Nat} (ht : t + fs.length ≤ 2 * s) (hs : s < lim) (hlim : lim ≤ 20000) (hL : fs.length < 300) : ∃ (F : Nat) (iwB : mI) (awB : mA), 5000 < F ∧ fPt g kd lb pt m T ty va τ vis nv nc (s + 1) pn fs k c (va_up iv 408 (nI (s + 1))) ar iwB awB iv ar iw aw ∧ (awB 66 fs.length = nI k ∧ awB 68 fs.length = nI 0 ∧ awB 69 fs.length = pn) ∧ mX4_perform_L22 (n + 1) (nI lim) (nI t) iv ar la pA pB = obc (mX4_begin (nI (tPl T k)) c (va_up iv 408 (nI (s + 1))) ar la pA pB) (fun _ iv105 ar105 la105 pA105 pB105 => mX4_perform_J108 (mX4_perform_L22 n) (nI lim) (nI t) iv105 ar105 la105 pA105 pB105) ∧ mX12_run_L63 (n2 + 1) (nI lim) (-1) iw aw = ob (mX12_goOn_J61 (mX12_goOn_L2 F) (nI fs.length) (nI k) iwB awB) (fun r129 iv129 ar129 => mX12_run_L63 n2 (nI lim) r129 iv129 ar129) ∧ mX12_wantsMore (nI fs.length) (nI k) iwB awB = if 0 < rNd T k then some (1, va_up (va_up (va_up iwB 73 (nI (tKt T k 0))) 74 c) 75 (-1), awB) else some (0, iwB, awB) := by
  obtain ⟨hA, hcl, hok⟩ := hX
  obtain ⟨⟨q1, q2, q3⟩, ⟨r1, r2, r3⟩, ⟨k1, k2, k3⟩, k4⟩ := hd
  have hk := (hok.2.2 k k1).1
  have hp := (hA.2.2 k hk).1.2.2
  have hm := mSt_beg hA hok h (show s < 20000 by omega) (nI k) c pn
  have hC := c_turnD (n := n) (t := t) (lim := lim) (ar := ar) (la := la) (pA := pA) (pB := pB) (T := T) (k := k) (show t < 40002 by omega) hs hlim hL hp h.2.2.1.1 h.2.2.2.1.1 q1 q2
  obtain ⟨F2, hF2, hR⟩ := r_turnD (n := n2) (aw := aw) hs hlim hL h.2.2.1.2.1 h.2.2.2.1.2.1 h.2.2.2.2.1 r1 r2 r3
  have hwant := r_wants (iw := va_up (va_up (va_up iw 57 (nI (s + 1))) 71 (nI (fs.length + 1))) 73 (-1)) (aw := au (au (au (au aw 66 fs.length (nI k)) 67 fs.length c) 68 fs.length 0) 69 fs.length pn) (f := fs.length) (n := 0) hA hm.2.2.2.2.2 hk (by omega) (by rw [au_ne _ (by decide), au_self]; rfl) (by omega)
  have e67 : (au (au (au (au aw 66 fs.length (nI k)) 67 fs.length c) 68 fs.length 0) 69 fs.length pn) 67 fs.length = c := by rw [au_ne _ (by decide), au_ne _ (by decide), au_self]
  rw [e67] at hwant
  have hnc := h.2.2.2.1.2.2.1
  refine ⟨F2, va_up (va_up (va_up iw 57 (nI (s + 1))) 71 (nI (fs.length + 1))) 73 (-1), au (au (au (au aw 66 fs.length (nI k)) 67 fs.length c) 68 fs.length 0) 69 fs.length pn, hF2, ⟨hm, ⟨k1, k2, k3⟩, ⟨rfl, rfl, e67, q3, hL⟩, by omega, ⟨fun x a b c => by rw [va_up_ne _ _ (by omega)], fun _ _ => rfl⟩, ⟨fun x hx => by rw [va_up_ne _ _ (by omega), va_up_ne _ _ (by omega), va_up_ne _ _ (by omega)], fun x hx => by rw [au_ne _ (by omega), au_ne _ (by omega), au_ne _ (by omega), au_ne _ (by omega)]⟩⟩, ⟨?_, ?_, ?_⟩, hC, hR, hwant⟩
  · rw [au_ne _ (by decide), au_ne _ (by decide), au_ne _ (by decide), au_self]
  · rw [au_ne _ (by decide), au_self]
    rfl
  · rw [au_self]
theorem b_word (hX : rCx g0 kd0 lb0 g kd lb pt m T ty va vis pA) (hP : fPt g kd lb pt m T ty va τ vis nv nc s pn fs k c iv ar iw aw iv0 ar0 iw0 aw0) {w : Nat} (e : tWd T k = w) : mX6_wordA (nI (tPl T k)) iv ar la pA pB = some (nI w, iv, ar, la, pA, pB) ∧ aw 40 k = nI w ∧ k < 200 ∧ k < m ∧ fs.length < 301 ∧ (va_up iw 71 ((iw 71) - 1) = va_up iw 71 (nI fs.length)) ∧ (aw 67 (nI fs.length).toNatClampNeg) = c ∧ (nI fs.length).toNatClampNeg = fs.length := by
  have hk := (hX.2.2.2.2 k hP.2.1.1).1
  have h300 := hP.2.2.1.2.2.2.2
  refine ⟨by rw [← e]; exact c_wordA hX.1 hX.2.1 hk, by rw [← e]; exact (hP.1.2.2.2.2.2 k hk).1.1, Nat.lt_of_lt_of_le hk hX.1.2.1, hk, by omega, by rw [hP.2.2.1.1, nsub1], by rw [ncl (by omega)]; exact hP.2.2.1.2.2.1, ncl (by omega)⟩
theorem d23 (hX : rCx g0 kd0 lb0 g kd lb pt m T ty va vis pA) (hP : fPt g kd lb pt m T ty va τ vis nv nc s m1 fs k c iv ar iw aw iv0 ar0 iw0 aw0) (e : tWd T k = 23) : fnO g kd lb pt m T ty va vis s fs iv0 ar0 la pA pB iw0 aw0 (mX4_begin (nI (tPl T k)) c iv ar la pA pB) (mX12_finish (nI fs.length) (nI k) iw aw) := by
  obtain ⟨w1, w2, w3, w4, w5, w6, w7, w8⟩ := b_word (la := la) (pB := pB) hX hP e
  have hkd : kd (ty k) = 2 := (hX.2.2.2.2 k hP.2.1.1).2.2.1.2.2.2.1 (Or.inl e)
  obtain ⟨x1, x2⟩ := (hX.2.1.2 k w4).1.2.1.1 (Or.inr (Or.inr (Or.inl e)))
  have hw1 : mX6_wordA (nI (tPl T k) + 1) iv ar la pA pB = some (tF1 T k, iv, ar, la, pA, pB) := by
    have := c_word1A (iv := iv) (ar := ar) (la := la) (pA := pA) (pB := pB) (p := tPl T k) (d := 1) x1
    rw [x2] at this
    exact this
  refine new_val hX hP hkd (Or.inl rfl) (x := tF1 T k) ?_ ?_
  · rw [bgn23 w1, hw1, obce]
    rfl
  · rw [rfn23 w5 w3 w2, if_neg (nI_in (c := k) (N := 200) (by omega) (by decide)), ob_id, w6, ncl (by omega), (hP.1.2.2.2.2.2 k w4).1.2.1]
    rfl
theorem d26 (hX : rCx g0 kd0 lb0 g kd lb pt m T ty va vis pA) (hP : fPt g kd lb pt m T ty va τ vis nv nc s m1 fs k c iv ar iw aw iv0 ar0 iw0 aw0) (e : tWd T k = 26) : fnO g kd lb pt m T ty va vis s fs iv0 ar0 la pA pB iw0 aw0 (mX4_begin (nI (tPl T k)) c iv ar la pA pB) (mX12_finish (nI fs.length) (nI k) iw aw) := by
  obtain ⟨w1, w2, w3, w4, w5, w6, w7, w8⟩ := b_word (la := la) (pB := pB) hX hP e
  have hkd : kd (ty k) = 3 := (hX.2.2.2.2 k hP.2.1.1).2.2.1.2.2.2.2.1 (Or.inr (Or.inl e))
  refine new_val hX hP hkd (Or.inr (Or.inl rfl)) (x := 1) ?_ ?_
  · rw [bgn26 w1]
    rfl
  · rw [rfn26 w5 w3 w2, if_neg (nI_in (c := k) (N := 200) (by omega) (by decide)), ncl (by omega), w2, if_pos (show nI 26 = 26 from rfl), ob_id, w6]
    rfl
theorem d27 (hX : rCx g0 kd0 lb0 g kd lb pt m T ty va vis pA) (hP : fPt g kd lb pt m T ty va τ vis nv nc s m1 fs k c iv ar iw aw iv0 ar0 iw0 aw0) (e : tWd T k = 27) : fnO g kd lb pt m T ty va vis s fs iv0 ar0 la pA pB iw0 aw0 (mX4_begin (nI (tPl T k)) c iv ar la pA pB) (mX12_finish (nI fs.length) (nI k) iw aw) := by
  obtain ⟨w1, w2, w3, w4, w5, w6, w7, w8⟩ := b_word (la := la) (pB := pB) hX hP e
  have hkd : kd (ty k) = 3 := (hX.2.2.2.2 k hP.2.1.1).2.2.1.2.2.2.2.1 (Or.inr (Or.inr e))
  refine new_val hX hP hkd (Or.inr (Or.inl rfl)) (x := 0) ?_ ?_
  · rw [bgn27 w1]
    rfl
  · rw [rfn27 w5 w3 w2, if_neg (nI_in (c := k) (N := 200) (by omega) (by decide)), ncl (by omega), w2, if_neg (show ¬ nI 27 = 26 by decide), ob_id, w6]
    rfl
/-- a record of nothing -/
theorem d29 (hX : rCx g0 kd0 lb0 g kd lb pt m T ty va vis pA) (hP : fPt g kd lb pt m T ty va τ vis nv nc s m1 fs k c iv ar iw aw iv0 ar0 iw0 aw0) (e : tWd T k = 29) (h0 : tNk T k = 0) : fnO g kd lb pt m T ty va vis s fs iv0 ar0 la pA pB iw0 aw0 (mX4_begin (nI (tPl T k)) c iv ar la pA pB) (mX12_finish (nI fs.length) (nI k) iw aw) := by
  obtain ⟨w1, w2, w3, w4, w5, w6, w7, w8⟩ := b_word (la := la) (pB := pB) hX hP e
  obtain ⟨hkd, -, hlb⟩ := (hX.2.2.2.2 k hP.2.1.1).2.2.1.2.2.2.2.2.2.1 e
  refine new_val hX hP hkd (Or.inr (Or.inr ⟨rfl, rfl, fun l hl hb => ?_⟩)) (x := 0) ?_ ?_
  · obtain ⟨i, hi, -⟩ := hlb l hl hb
    omega
  · rw [bgn29 w1]
    unfold mX4_beginOpen
    rw [c_countA hX.1 hX.2.1 w4, obce, h0, if_pos (show nI 0 = 0 from rfl)]
    rw [show (5 : Int32) = nI 5 from rfl]
    generalize mX10_add (nI 5) 0 iv ar la pA pB = o
    cases o with
    | none => rfl
    | some o => rfl
  · rw [rfn29 w5 w3 w2, ob_id, w6, rfm29 w3 w2]
    rcases newV_both (K := 5) (x := 0) (ar := ar) (la := la) (pA := pA) (pB := pB) (aw := aw) hP.1.1.1.1.1 hP.1.1.1.1.2.1 hP.1.1.1.1.2.2 with ⟨hn, aw2, e1, e2, a1, a2, a3, a4, a5⟩ | ⟨hn, e1, e2⟩
    · rw [show (5 : Int32) = nI 5 from rfl, e2, obe]
      obtain ⟨F, hF, hFF⟩ : ∃ F, bigF = F + 1 ∧ 5000 < F := ⟨999999, rfl, by omega⟩
      rw [hF, mX12_finishMore_L47]
      rw [if_neg (by first | exact nI_in (by omega) (by omega) | exact nI_inn (by omega) (by omega)), ncl (by omega), a1 45 (by decide) (by decide) (by decide), (hP.1.2.2.2.2.2 k w4).1.2.2.2, h0, if_pos (show nI 0 ≤ 0 by decide)]
    · rw [show (5 : Int32) = nI 5 from rfl, e2, obe]
      obtain ⟨F, hF, hFF⟩ : ∃ F, bigF = F + 1 ∧ 5000 < F := ⟨999999, rfl, by omega⟩
      rw [hF, mX12_finishMore_L47]
      rw [if_neg (by first | exact nI_in (by omega) (by omega) | exact nI_inn (by omega) (by omega)), ncl (by omega), (hP.1.2.2.2.2.2 k w4).1.2.2.2, h0, if_pos (show nI 0 ≤ 0 by decide)]
end
