section
variable {g0 : Nat} {kd0 lb0 : Nat → Nat} {g : Nat} {kd lb : Nat → Nat} {pt : Nat → Nat → Nat} {m : Nat} {T : TT} {ty va τ : Nat → Nat} {vis : List Nat} {nv nc s : Nat} {pn : Int32} {fs : List (Nat × Int32 × Nat)} {k : Nat} {c : Int32} {iv : mI} {ar : mA} {la : mL} {pA pB : mA} {iw : mI} {aw : mA} {iv0 : mI} {ar0 : mA} {iw0 : mI} {aw0 : mA}
/-- what is itself -/
theorem d33 (hX : rCx g0 kd0 lb0 g kd lb pt m T ty va vis pA) (hP : fPt g kd lb pt m T ty va τ vis nv nc s m1 fs k c iv ar iw aw iv0 ar0 iw0 aw0) (e : tWd T k = 33) : fnO g kd lb pt m T ty va vis s fs iv0 ar0 la pA pB iw0 aw0 (mX4_begin (nI (tPl T k)) c iv ar la pA pB) (mX12_finish (nI fs.length) (nI k) iw aw) := by
  obtain ⟨w1, w2, w3, w4, w5, w6, w7, w8⟩ := b_word (la := la) (pB := pB) hX hP e
  have hnk : tNk T k = 1 := ((hX.1.2.2 k w4).1.1.2.2.1 (Or.inr e)).1
  obtain ⟨hm, ⟨k1, k2, k3⟩, ⟨p1, p2, p3, p4, p5⟩, hnc, f1, f2⟩ := hP
  have hv := hm.1.1.1
  have hs4 := hm.2.2.2.1.2.2.2
  obtain ⟨-, hty, htyR, hkids, hscv, hbd⟩ := hX.2.2.2.2 k k1
  have hj := hkids 0 (by omega)
  obtain ⟨⟨j1, j2, -, -⟩, j3, -, j5⟩ := (hX.1.2.2 k w4).2.2 0 (by rw [tAll_mn hX.1 w4]; omega)
  have hj21 := j5 e
  have hsc : tSc T (tIn T k 0) = tIn T k 0 :: tSc T k := by rw [j3]; unfold tNs; rw [if_pos (Or.inr (Or.inl e))]
  obtain ⟨hvag, hva1, -⟩ := hbd 0 (by omega) (Or.inr (Or.inl e))
  obtain ⟨ht1, ht2⟩ := htyR.2.2.2.2.2.2.2.2.2.2 e
  have hva : va (tIn T k 0) = ty k := by
    have q := hva1 (Or.inr e)
    rw [ht1] at q
    have hg := hX.2.2.1.2
    exact ((nI_eq (by omega) (by omega)).mp q).symm
  obtain ⟨-, htj, htyj, -⟩ := hX.2.2.2.2 _ hj
  obtain ⟨hkd, -, -⟩ := htyj.2.1 hj21
  have h43 := ((hm.2.2.2.2.2 k w4).2 0 (by omega)).1
  rcases newV_both (K := 4) (x := 0) (ar := ar) (la := la) (pA := pA) (pB := pB) (aw := aw) hv.1 hv.2.1 hv.2.2 with ⟨hn, aw2, e1, e2, a1, a2, a3, a4, a5⟩ | ⟨hn, e1, e2⟩
  · have hm2 : mSt g kd lb pt m T ty va (fun w => if w = nv then ty (tIn T k 0) else τ w) vis (nv + 1) nc s (nI nv) fs (va_up iv 1005 (nI (nv + 1))) (au (au (au (au ar 1000 nv (nI 4)) 1001 nv 0) 1003 nv (-1)) 1004 nv (-1)) (va_up (va_up iw 71 (nI fs.length)) 56 (nI (nv + 1))) aw2 := by
      refine mSt_new (pn2 := nI nv) hX hm hn htj (by omega) ⟨rfl, rfl, rfl, rfl⟩ ⟨rfl, rfl, rfl, rfl, rfl⟩ (fun r hr => ?_) (fun v hv => ?_) (fun r hr => a1 r (by omega) (by omega) (by omega)) (fun v hv => ?_) ?_ ?_ ?_ (fun l hl => ?_) (fun _ => Or.inl rfl) (fun q => by omega) (fun q => by omega)
      · rw [au_ne _ (by omega), au_ne _ (by omega), au_ne _ (by omega), au_ne _ (by omega)]
      · simp [aur, show ¬ v = nv by omega]
      · rw [a2 v, a3 v, a1 61 (by decide) (by decide) (by decide), a1 62 (by decide) (by decide) (by decide), if_neg (by omega), if_neg (by omega)]
        exact ⟨rfl, rfl, rfl, rfl, fun l hl => a4 _ (by omega)⟩
      · rw [hkd]
        simp [aur]
      · rw [hkd, a2, if_pos rfl]
      · rw [a3, if_pos rfl]
        simp [aur]
      · rw [a5 l hl, if_neg]
        rw [show (au (au (au (au ar 1000 nv (nI 4)) 1001 nv 0) 1003 nv (-1)) 1004 nv (-1)) 1000 nv = nI 4 by simp [aur]]
        rintro (⟨q, -⟩ | ⟨q, -⟩)
        · exact absurd q (by decide)
        · exact absurd q (by decide)
    obtain ⟨x1, x2, -⟩ := cell_both (la := la) (pA := pA) (pB := pB) (x := nI nv) (y := c) (show nc < 20000 by omega) hm2.1.2
    have x1' : mX1_add (nI nv) c (va_up (va_up iv 1005 (nI (nv + 1))) 411 (nI nv)) (au (au (au (au ar 1000 nv (nI 4)) 1001 nv 0) 1003 nv (-1)) 1004 nv (-1)) la pA pB = some (nI nc, va_up (va_up (va_up iv 1005 (nI (nv + 1))) 411 (nI nv)) 102 (nI (nc + 1)), au (au (au (au (au (au ar 1000 nv (nI 4)) 1001 nv 0) 1003 nv (-1)) 1004 nv (-1)) 100 nc (nI nv)) 101 nc c, la, pA, pB) := (cell_both (iv := va_up (va_up iv 1005 (nI (nv + 1))) 411 (nI nv)) (la := la) (pA := pA) (pB := pB) (x := nI nv) (y := c) (show nc < 20000 by omega) hm2.1.2).1
    have hB : mX4_begin (nI (tPl T k)) c iv ar la pA pB = some (0, va_up (va_up (va_up (va_up (va_up iv 1005 (nI (nv + 1))) 411 (nI nv)) 102 (nI (nc + 1))) 409 (nI (tPl T (tIn T k 0)))) 410 (nI nc), au (au (au (au (au (au ar 1000 nv (nI 4)) 1001 nv 0) 1003 nv (-1)) 1004 nv (-1)) 100 nc (nI nv)) 101 nc c, la, pA, pB) := by
      rw [bgn33 w1]
      unfold mX4_beginItself
      rw [show (4 : Int32) = nI 4 from rfl, e1, obce, if_neg (show ¬ nI nv = -1 by rw [nm1ne (by omega)]; exact id), show mX6_kidA (nI (tPl T k)) 0 (va_up (va_up iv 1005 (nI (nv + 1))) 411 (nI nv)) (au (au (au (au ar 1000 nv (nI 4)) 1001 nv 0) 1003 nv (-1)) 1004 nv (-1)) la pA pB = some (nI (tPl T (tIn T k 0)), va_up (va_up iv 1005 (nI (nv + 1))) 411 (nI nv), au (au (au (au ar 1000 nv (nI 4)) 1001 nv 0) 1003 nv (-1)) 1004 nv (-1), la, pA, pB) from c_kidA (i := 0) hX.1 hX.2.1 w4 (by omega), obce, x1', obce]
      unfold mX4_want
      rw [obce, obce]
    have hR : mX12_finish (nI fs.length) (nI k) iw aw = some (-1, va_up (va_up (va_up (va_up (va_up (va_up iw 71 (nI fs.length)) 56 (nI (nv + 1))) 65 (nI (nc + 1))) 73 (nI (tIn T k 0))) 74 (nI nc)) 75 (nI nv), au (au aw2 63 nc (nI nv)) 64 nc c) := by
      rw [rfn33 w5 w3 w2, ob_id, w6, w7, rfm33 w3 w2, show (4 : Int32) = nI 4 from rfl, e2, obe, if_neg (nI_pos (show nv < 2147483648 by omega)), show (9 : Int32) * nI k = nI (9 * k) by rw [show (9 : Int32) = nI 9 from rfl, nmul], if_neg (by first | exact nI_in (by omega) (by omega) | exact nI_inn (by omega) (by omega)), ncl (by omega), x2, obe, a1 43 (by decide) (by decide) (by decide), show aw 43 (9 * k) = nI (tIn T k 0) from h43]
      unfold mX12_next
      rw [obe]
    refine Or.inr (Or.inl ⟨fun w => if w = nv then ty (tIn T k 0) else τ w, nv + 1, nc + 1, nI nv, tIn T k 0, nI nc, _, _, _, _, _, hB, hR, mSt_cell hX hm2 hnc ⟨rfl, rfl, rfl, rfl⟩ ⟨rfl, rfl, rfl, rfl, rfl⟩, ⟨⟨rfl, rfl, rfl⟩, ⟨rfl, rfl, rfl⟩, ⟨hj, ?_, exB_ty hX.2.2 hX.1 hm.2.1.2 hty htj ht2 k3⟩, Or.inr ⟨nv, rfl, Nat.lt_succ_self _, hj21, ?_⟩⟩, ?_, ?_⟩)
    · rw [hsc]
      have hτ2 : ∀ w, w < nv → (fun w => if w = nv then ty (tIn T k 0) else τ w) w = τ w := fun w hw => if_neg (by omega)
      refine eOK_new (Nat.lt_succ_self _) ?_ (eOK_up (ar := ar) (ar2 := au (au (au (au ar 1000 nv (nI 4)) 1001 nv 0) 1003 nv (-1)) 1004 nv (-1)) (τ := τ) (nv := nv) (Nat.le_succ _) (Nat.le_refl _) (fun _ _ => ⟨rfl, rfl⟩) hτ2 _ _ k2)
      show blw kd lb pt (if nv = nv then ty (tIn T k 0) else τ nv) (va (tIn T k 0))
      rw [if_pos rfl, hva]
      exact ht2
    · show (if nv = nv then ty (tIn T k 0) else τ nv) = ty (tIn T k 0)
      rw [if_pos rfl]
    · exact fRc_t f1 ⟨fun x a b c => by rw [va_up_ne _ _ (by omega), va_up_ne _ _ (by omega), va_up_ne _ _ (by omega), va_up_ne _ _ (by omega), va_up_ne _ _ (by omega)], fun x hx => by rw [au_ne _ (by omega), au_ne _ (by omega), au_ne _ (by omega), au_ne _ (by omega), au_ne _ (by omega), au_ne _ (by omega)]⟩
    · exact fRr_t f2 ⟨fun x hx => by rw [va_up_ne _ _ (by omega), va_up_ne _ _ (by omega), va_up_ne _ _ (by omega), va_up_ne _ _ (by omega), va_up_ne _ _ (by omega), va_up_ne _ _ (by omega)], fun x hx => by rw [au_ne _ (by omega), au_ne _ (by omega), a1 x (by omega) (by omega) (by omega)]⟩
  · have hB : mX4_begin (nI (tPl T k)) c iv ar la pA pB = some (0, va_up (va_up iv 409 (-1)) 412 (-1), ar, la, pA, pB) := by
      rw [bgn33 w1]
      unfold mX4_beginItself mX4_give
      rw [show (4 : Int32) = nI 4 from rfl, e1, obce, if_pos rfl, obce, obce]
    have hR : mX12_finish (nI fs.length) (nI k) iw aw = some (-1, va_up (va_up iw 71 (nI fs.length)) 72 m16, aw) := by
      rw [rfn33 w5 w3 w2, ob_id, w6, rfm33 w3 w2, show (4 : Int32) = nI 4 from rfl, e2, obe, if_pos (show (-1 : Int32) < 0 by decide)]
    refine Or.inr (Or.inr ⟨nv, _, _, _, _, _, hB, hR, rfl, rfl, p2, rfl, hm.1.1, ?_, ?_, ?_⟩)
    · show iv 408 = iw 57
      rw [hm.2.2.2.1.1]
      exact hm.2.2.2.1.2.1.symm
    · exact fRc_t f1 ⟨fun x a b c => by rw [va_up_ne _ _ (by omega), va_up_ne _ _ (by omega)], fun _ _ => rfl⟩
    · exact fRr_t f2 ⟨fun x hx => by rw [va_up_ne _ _ (by omega), va_up_ne _ _ (by omega)], fun _ _ => rfl⟩
theorem sc_turn (hX : rCx g0 kd0 lb0 g kd lb pt m T ty va vis pA) (hk : k ∈ vis) (h21 : tWd T k ≠ 21) (h33 : tWd T k ≠ 33) {j : Nat} (hj : j < tNd T k) : tKt T k j ∈ vis ∧ tSc T (tKt T k j) = tSc T k ∧ j < tNk T k ∧ j < 8 ∧ rNd T k = tNd T k ∧ (tWd T k = 32 → j = 0) := by
  obtain ⟨hkm, -, -, hkids, -, -⟩ := hX.2.2.2.2 k hk
  have hO := (hX.1.2.2 k hkm).1.1
  have hlt : j < tNk T k ∧ j < 8 ∧ (tWd T k = 32 → j = 0) := by
    unfold tNd at hj
    by_cases e : tWd T k = 28 ∨ tWd T k = 32
    · rw [if_pos e] at hj
      rcases e with e | e
      · have := hO.2.2.2.2.2.1 e
        exact ⟨by omega, by omega, by omega⟩
      · have := (hO.2.2.2.2.2.2.2.2.2 e).1
        exact ⟨by omega, by omega, by omega⟩
    · rw [if_neg e] at hj
      refine ⟨hj, ?_, fun q => absurd (Or.inr q) e⟩
      have q1 := hO.1
      by_cases e2 : tWd T k = 29
      · have := (hO.2.2.2.2.2.2.1 e2).1
        omega
      · have hc : tWd T k = 20 ∨ (tWd T k = 22 ∨ tWd T k = 24 ∨ tWd T k = 25) ∨ (tWd T k = 23 ∨ tWd T k = 26 ∨ tWd T k = 27) ∨ tWd T k = 30 ∨ tWd T k = 31 := by
          clear hO hX hkids
          omega
        have q2 := hO.2.1
        have q3 := hO.2.2.2.1
        have q4 := hO.2.2.2.2.1
        have q5 := hO.2.2.2.2.2.2.2.1
        have q6 := hO.2.2.2.2.2.2.2.2.1
        have : tNk T k ≤ 2 := by
          rcases hc with q | q | q | q | q
          · have := (q2 q).1; omega
          · have := q3 q; omega
          · have := q4 q; omega
          · have := (q5 q).1; omega
          · have := (q6 q).1; omega
        omega
  refine ⟨hkids _ (tTp_lt hX.1 hkm hlt.1), ?_, hlt.1, hlt.2.1, ?_, hlt.2.2⟩
  · have q := ((hX.1.2.2 k hkm).2.2 (tTp T k j) (by rw [tAll_mn hX.1 hkm]; exact tTp_lt hX.1 hkm hlt.1)).2.1
    unfold tKt
    rw [q]
    unfold tNs
    refine if_neg ?_
    rintro (q3 | q3 | ⟨q3, q2⟩)
    · exact h21 q3
    · exact h33 q3
    · have := hlt.2.2 q3
      subst this
      unfold tTp at q2
      rw [if_pos q3, if_pos rfl] at q2
      omega
  · unfold rNd tNd
    by_cases e : tWd T k = 28 ∨ tWd T k = 32
    · rw [if_pos e, if_pos e]
    · rw [if_neg e, if_neg e, if_neg (by omega)]
/-- a term that wants others first -/
theorem dOpen (hX : rCx g0 kd0 lb0 g kd lb pt m T ty va vis pA) (h : mSt g kd lb pt m T ty va τ vis nv nc s m1 fs iv ar iw aw) (hd : dSt kd lb pt T ty va τ vis nv nc m1 fs k c iv ar iw) (e : tWd T k = 22 ∨ tWd T k = 24 ∨ tWd T k = 25 ∨ tWd T k = 28 ∨ (tWd T k = 29 ∧ 0 < tNk T k) ∨ tWd T k = 30 ∨ tWd T k = 31 ∨ tWd T k = 32) {n n2 lim t : Nat} (ht : t + fs.length ≤ 2 * s) (hs : s < lim) (hlim : lim ≤ 20000) (hL : fs.length < 300) : tuO g kd lb pt m T ty va vis n n2 lim t (s + 1) iv ar la pA pB iw aw (mX4_perform_L22 (n + 1) (nI lim) (nI t) iv ar la pA pB) (mX12_run_L63 (n2 + 1) (nI lim) (-1) iw aw) := by
  obtain ⟨F, iwB, awB, hF, hP, ⟨b66, b68, b69⟩, hC, hR, hw⟩ := d_pt (la := la) (pB := pB) (n := n) (n2 := n2) hX h hd ht hs hlim hL
  have hk1 := hP.2.1.1
  have hkm := (hX.2.2.2.2 k hk1).1
  have hO := (hX.1.2.2 k hkm).1.1
  have h9 := hOK9 hO
  have hnk : 0 < tNk T k := by
    rcases e with q | q | q | q | q | q | q | q
    · have := hO.2.2.2.1 (Or.inl q); omega
    · have := hO.2.2.2.1 (Or.inr (Or.inl q)); omega
    · have := hO.2.2.2.1 (Or.inr (Or.inr q)); omega
    · have := hO.2.2.2.2.2.1 q; omega
    · exact q.2
    · have := (hO.2.2.2.2.2.2.2.1 q).1; omega
    · have := (hO.2.2.2.2.2.2.2.2.1 q).1; omega
    · have := (hO.2.2.2.2.2.2.2.2.2 q).1; omega
  have hnd : 0 < tNd T k := by
    unfold tNd
    by_cases q : tWd T k = 28 ∨ tWd T k = 32
    · rw [if_pos q]; omega
    · rw [if_neg q]; exact hnk
  obtain ⟨u1, u2, u3, u4, u5, u6⟩ := sc_turn hX hk1 (by omega) (by omega) hnd
  rw [u5, if_pos hnd] at hw
  have hw0 : mX6_wordA (nI (tPl T k)) (va_up iv 408 (nI (s + 1))) ar la pA pB = some (nI (tWd T k), va_up iv 408 (nI (s + 1)), ar, la, pA, pB) := c_wordA hX.1 hX.2.1 hkm
  have h407 : (va_up iv 408 (nI (s + 1))) 407 = nI fs.length := h.2.2.1.1
  have hopen : mX4_beginOpen (nI (tPl T k)) c (va_up iv 408 (nI (s + 1))) ar la pA pB = some (0, va_up (va_up (va_up (va_up iv 408 (nI (s + 1))) 407 (nI (fs.length + 1))) 409 (nI (tPl T (tKt T k 0)))) 410 c, au (au (au ar 403 fs.length (nI (tPl T k))) 404 fs.length c) 405 fs.length 0, la, pA, pB) := by
    have hpu : mX4_push (nI (tPl T k)) c (va_up iv 408 (nI (s + 1))) ar la pA pB = some (0, va_up (va_up iv 408 (nI (s + 1))) 407 (nI (fs.length + 1)), au (au (au ar 403 fs.length (nI (tPl T k))) 404 fs.length c) 405 fs.length 0, la, pA, pB) := by
      unfold mX4_push
      rw [h407, if_neg (show ¬ (300 : Int32) ≤ nI fs.length from nI_ge (show fs.length < 300 by omega) (by decide)), if_neg (by first | exact nI_in (by omega) (by omega) | exact nI_inn (by omega) (by omega)), if_neg (by first | exact nI_in (by omega) (by omega) | exact nI_inn (by omega) (by omega)), if_neg (by first | exact nI_in (by omega) (by omega) | exact nI_inn (by omega) (by omega)), ncl (by omega), show nI fs.length + 1 = nI (fs.length + 1) from nadd _ 1]
    unfold mX4_beginOpen
    rw [c_countA hX.1 hX.2.1 hkm, obce, if_neg (show ¬ nI (tNk T k) = 0 from fun q => by have := (nI_eq (b := 0) (by omega) (by decide)).mp q; omega), hpu, obce]
    have hkt := c_kidTA (iv := va_up (va_up iv 408 (nI (s + 1))) 407 (nI (fs.length + 1))) (ar := au (au (au ar 403 fs.length (nI (tPl T k))) 404 fs.length c) 405 fs.length 0) (la := la) (pB := pB) (j := 0) hX.1 hX.2.1 hkm (Nat.zero_le _)
    rw [if_pos hnk] at hkt
    rw [show (0 : Int32) = nI 0 from rfl] at hkt ⊢
    rw [hkt, obce]
    unfold mX4_want
    rw [obce]
  have hB : mX4_begin (nI (tPl T k)) c (va_up iv 408 (nI (s + 1))) ar la pA pB = some (0, va_up (va_up (va_up (va_up iv 408 (nI (s + 1))) 407 (nI (fs.length + 1))) 409 (nI (tPl T (tKt T k 0)))) 410 c, au (au (au ar 403 fs.length (nI (tPl T k))) 404 fs.length c) 405 fs.length 0, la, pA, pB) := by
    rcases e with q | q | q | q | ⟨q, -⟩ | q | q | q
    · rw [q] at hw0; rw [bgn22 hw0, hopen, obce]
    · rw [q] at hw0; rw [bgn24 hw0, hopen, obce]
    · rw [q] at hw0; rw [bgn25 hw0, hopen, obce]
    · rw [q] at hw0; rw [bgn28 hw0, hopen, obce]
    · rw [q] at hw0; rw [bgn29 hw0, hopen, obce]
    · rw [q] at hw0; rw [bgn30 hw0, hopen, obce]
    · rw [q] at hw0; rw [bgn31 hw0, hopen, obce]
    · rw [q] at hw0; rw [bgn32 hw0, hopen, obce]
  have hkt := (tKt_in hX.1 hkm hnk).2.1
  have hp := (hX.1.2.2 _ hkt).1.2.2
  have hkt2 : tKt T k 0 < 200 := Nat.lt_of_lt_of_le hkt hX.1.2.1
  rw [hC, c_wanted hB rfl (by omega), hR, r_mor hw (show (0 : Int32) ≤ nI (tKt T k 0) from nI_pos' (by omega)) (by omega)]
  obtain ⟨⟨⟨⟨v1, v2, v3⟩, v4⟩, ⟨c1, c2⟩, c3⟩, ⟨b3, b4⟩, ⟨o1, o2, o3⟩, ⟨s1, s2, s3, s4⟩, z1, z2⟩ := hP.1
  obtain ⟨-, ⟨k1, k2, k3⟩, ⟨p1, p2, p3, p4, p5⟩, hnc, f1, f2⟩ := hP
  refine Or.inl ⟨τ, nv, nc, m1, (k, c, 0) :: fs, tKt T k 0, c, _, _, _, _, rfl, rfl, ⟨⟨⟨⟨v1, v2, v3⟩, v4⟩, ⟨c1, c2⟩, c3⟩, ⟨vT_r b3 (fun r hr => by rw [au_ne _ (by omega), au_ne _ (by omega), au_ne _ (by omega)]) rfl rfl, ⟨⟨⟨?_, ?_, ?_⟩, ⟨b66, p3, b68⟩, ⟨k1, hnd, by omega, by omega, by omega⟩, eOK_r (ar := ar) rfl rfl k2, fun j hj => by omega, k3⟩, fO_up (ar := ar) (ar2 := au (au (au ar 403 fs.length (nI (tPl T k))) 404 fs.length c) 405 fs.length 0) (aw := awB) (τ := τ) (Nat.le_refl _) (Nat.le_refl _) (fun _ _ => ⟨rfl, rfl⟩) (fun _ _ => rfl) fs (fun i hi => ⟨?_, ?_, ?_, rfl, rfl, rfl⟩) (fun i _ => rfl) (fun i _ => rfl) (fO_n9 hX.1 hX.2.2 fs b4) b4⟩⟩, ⟨?_, ?_, ?_⟩, ⟨s1, s2, ?_, s4⟩, z1, z2⟩, ⟨⟨rfl, rfl, p4⟩, ⟨rfl, rfl, rfl⟩, ⟨u1, by rw [u2]; exact eOK_r (ar := ar) rfl rfl k2, blw_refl _⟩, Or.inl rfl⟩, ?_, ?_, ?_⟩
  · rw [au_ne _ (by decide), au_ne _ (by decide), au_self]
  · rw [au_ne _ (by decide), au_self]
  · rw [au_self]; rfl
  · rw [au_ne _ (by decide), au_ne _ (by decide), au_ni _ (by omega)]
  · rw [au_ne _ (by decide), au_ni _ (by omega), au_ne _ (by decide)]
  · rw [au_ni _ (by omega), au_ne _ (by decide), au_ne _ (by decide)]
  · exact rfl
  · exact p1
  · rw [List.length_cons]; omega
  · rw [List.length_cons]; omega
  · rw [List.length_cons]; omega
  · exact fRc_t f1 ⟨fun x a b c => by rw [va_up_ne _ _ (by omega), va_up_ne _ _ (by omega), va_up_ne _ _ (by omega)], fun x hx => by rw [au_ne _ (by omega), au_ne _ (by omega), au_ne _ (by omega)]⟩
  · exact fRr_t f2 ⟨fun x hx => by rw [va_up_ne _ _ (by omega), va_up_ne _ _ (by omega), va_up_ne _ _ (by omega)], fun _ _ => rfl⟩
end
