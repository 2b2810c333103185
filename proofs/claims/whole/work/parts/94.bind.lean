theorem tyR_move {f g : Nat} {kd lb kd2 lb2 : Nat → Nat} {pt pt2 : Nat → Nat → Nat} {T : TT} {ty ty2 va va2 : Nat → Nat} {k t : Nat} {g0 : Nat} {kd0 lb0 : Nat → Nat} {m : Nat} (hA : tAll g0 kd0 lb0 m T) (hk : k < m) (hG : Gr f kd lb pt) (hg : grow f kd lb pt g kd2 lb2 pt2) (ht : t < f) (hty : ∀ i, i < tNk T k → ty2 (tIn T k i) = ty (tIn T k i) ∧ ty (tIn T k i) < f) (hva : ∀ h, h ∈ tSc T k → va2 h = va h) (h : tyR kd lb pt T ty va k t) : tyR kd2 lb2 pt2 T ty2 va2 k t := by
  obtain ⟨a1, a2, a3, a4, a5, a6, a7, a8, a9, a10, a11⟩ := h
  have hO := (hA.2.2 k hk).1.1
  obtain ⟨e1, e2, e3⟩ := hg.2.2 t ht
  have K : ∀ i, i < tNk T k → ty2 (tIn T k i) = ty (tIn T k i) ∧ kd2 (ty (tIn T k i)) = kd (ty (tIn T k i)) ∧ lb2 (ty (tIn T k i)) = lb (ty (tIn T k i)) ∧ ∀ l, pt2 (ty (tIn T k i)) l = pt (ty (tIn T k i)) l := fun i hi => by
    obtain ⟨b1, b2⟩ := hty i hi
    obtain ⟨b3, b4, b5⟩ := hg.2.2 _ b2
    exact ⟨b1, b3, b4, b5⟩
  have ptlt : ∀ x, x < f → ∀ l, l < 8 → (lb x).testBit l = true → pt x l < f := fun x hx l hl hb => (hG x hx).2.2.2.2 l hl hb
  refine ⟨fun e => ?_, fun e => ?_, fun e => ?_, fun e => ?_, fun e => ?_, fun e => ?_, fun e => ?_, fun e => ?_, fun e => ?_, fun e => ?_, fun e => ?_⟩
  · obtain ⟨j, h, q1, q2, q3⟩ := a1 e
    exact ⟨j, h, q1, q2, by rw [hva h (List.mem_of_getElem? q2)]; exact q3⟩
  · have hn := (hO.2.2.1 (Or.inl e)).1
    obtain ⟨b1, -⟩ := K 0 (by omega)
    rw [e1, e3, e3, b1]
    exact a2 e
  · have hn := hO.2.2.2.1 (Or.inl e)
    obtain ⟨b1, b2, b3, b4⟩ := K 0 (by omega)
    obtain ⟨c1, -⟩ := K 1 (by omega)
    rw [b1, b2, b4, b4, c1]
    rcases a3 e with q | ⟨q1, q2, q3⟩
    · exact Or.inl q
    · refine Or.inr ⟨q1, blw_grow hG hg (hty 1 (by omega)).2 (ptlt _ (hty 0 (by omega)).2 0 (by omega) ?_) q2, q3⟩
      rw [(hG _ (hty 0 (by omega)).2).2.2.2.1 q1]
      decide
  · rw [e1]; exact a4 e
  · rw [e1]; exact a5 e
  · have hn := hO.2.2.2.2.2.1 e
    rw [(K 1 (by omega)).1, (K 2 (by omega)).1]
    exact ⟨blw_grow hG hg (hty 1 (by omega)).2 ht (a6 e).1, blw_grow hG hg (hty 2 (by omega)).2 ht (a6 e).2⟩
  · rw [e1, e2]
    refine ⟨(a7 e).1, fun i hi => ?_, (a7 e).2.2⟩
    rw [e3, (K i hi).1]
    exact (a7 e).2.1 i hi
  · have hn := (hO.2.2.2.2.2.2.2.1 e).1
    obtain ⟨b1, b2, b3, b4⟩ := K 0 (by omega)
    rw [b1, b2, b3]
    rcases a8 e with q | ⟨l, q1, q2, q3, q4, q5⟩
    · exact Or.inl q
    · exact Or.inr ⟨l, q1, q2, q3, q4, by rw [b4]; exact q5⟩
  · have hn := (hO.2.2.2.2.2.2.2.2.1 e).1
    obtain ⟨b1, -⟩ := K 0 (by omega)
    obtain ⟨l, q1, q2, q3, q4, q5, q6⟩ := a9 e
    rw [b1, e1, e2]
    exact ⟨l, q1, q2, q3, q4, q5, by rw [e3]; exact blw_grow hG hg (hty 0 (by omega)).2 (ptlt t ht l q3 q5) q6⟩
  · have hn := (hO.2.2.2.2.2.2.2.2.2 e).1
    obtain ⟨b1, b2, b3, b4⟩ := K (tNk T k - 1) (by omega)
    rw [b1, b2, b3]
    refine ⟨(a10 e).1, fun i hi => ?_⟩
    rw [(K i (by omega)).1]
    exact blw_grow hG hg (hty i (by omega)).2 ht ((a10 e).2 i hi)
  · have hn := (hO.2.2.1 (Or.inr e)).1
    rw [(K 0 (by omega)).1]
    exact ⟨(a11 e).1, blw_grow hG hg (hty 0 (by omega)).2 ht (a11 e).2⟩
theorem vaR_move {f g : Nat} {kd lb kd2 lb2 : Nat → Nat} {pt pt2 : Nat → Nat → Nat} {T : TT} {ty ty2 va va2 : Nat → Nat} {k i : Nat} (hg : grow f kd lb pt g kd2 lb2 pt2) (hty : tWd T k = 32 → i + 1 < tNk T k → ty2 (tIn T k (tNk T k - 1)) = ty (tIn T k (tNk T k - 1)) ∧ ty (tIn T k (tNk T k - 1)) < f) (hva : va2 (tIn T k i) = va (tIn T k i)) (h : vaR kd lb pt T ty va k i) : vaR kd2 lb2 pt2 T ty2 va2 k i := by
  refine ⟨fun e => by rw [hva]; exact h.1 e, fun e hi => ?_⟩
  obtain ⟨b1, b2⟩ := hty e hi
  obtain ⟨b3, b4, b5⟩ := hg.2.2 _ b2
  rw [b1, b3, b4, b5, hva]
  exact h.2 e hi
section
variable {g0 : Nat} {kd0 lb0 : Nat → Nat} {g : Nat} {kd lb : Nat → Nat} {pt : Nat → Nat → Nat} {m : Nat} {T : TT} {ty va : Nat → Nat} {k : Nat} {iv : mI} {ar : mA} {la : mL} {pA pB : mA} {iw : mI} {aw : mA}
/-- the variable that is bound before a term of k is typed, in both -/
theorem bind_both (hA : tAll g0 kd0 lb0 m T) (hG0 : ∀ t, t < g0 → t < g ∧ kd t = kd0 t ∧ lb t = lb0 t) (hcl : tCl m T pB) (hre : tRe m T aw) (hk : k < m) (hg : gAll g kd lb pt iv ar la iw aw) (h24 : iw 24 = 0) {j : Nat} (hj : j < tNk T k) (hlast : tWd T k = 32 → 0 < j → ty (tIn T k (tNk T k - 1)) < g ∧ ar 204 (tPl T (tIn T k (tNk T k - 1))) = nI (ty (tIn T k (tNk T k - 1))) ∧ aw 54 (tIn T k (tNk T k - 1)) = nI (ty (tIn T k (tNk T k - 1)))) :
    ∃ (c r : Int32) (g2 : Nat) (kd2 lb2 : Nat → Nat) (pt2 : Nat → Nat → Nat) (iv2 : mI) (ar2 : mA) (iw2 : mI) (aw2 : mA), mX2_bindIn (nI (tPl T k)) (nI (tPl T (tKt T k j))) (nI j) iv ar la pA pB = some (c, iv2, au ar2 205 (tPl T (tKt T k j)) c, la, pA, pB) ∧ mX12_bindFor (nI k) (nI j) iw aw = some (r, iw2, aw2) ∧ grow g kd lb pt g2 kd2 lb2 pt2 ∧ gAll g2 kd2 lb2 pt2 iv2 ar2 la iw2 aw2 ∧ fD iv ar iv2 ar2 ∧ fE iw aw iw2 aw2 ∧ iw2 2 = iw 2 ∧ ((¬ tBd T k (tTp T k j) ∧ c = m1 ∧ r = m1 ∧ iw2 24 = 0) ∨ (tBd T k (tTp T k j) ∧ ∃ t, t < g2 ∧ c = nI t ∧ r = nI t ∧ iw2 24 = 0 ∧ ∀ va2 : Nat → Nat, va2 (tKt T k j) = t → vaR kd2 lb2 pt2 T ty va2 k (tTp T k j)) ∨ (c = m3 ∧ r = 0 ∧ iw2 24 = m3)) := by
  have hO := (hA.2.2 k hk).1.1
  have h9 := hOK9 hO
  have hw := hO.1
  have hk2 : k < 200 := Nat.lt_of_lt_of_le hk hA.2.1
  have hkt := tKt_in hA hk hj
  have hph := (hA.2.2 _ hkt.2.1).1.2.2
  have hkn := nI_in (c := k) (N := 200) (by omega) (by decide)
  have hkm := nI_inn (a := k) (N := 200) (by omega) (by omega)
  have hg200 := hg.1
  have h68 : ∀ (c : Int32) (iv2 : mI) (ar2 : mA), mX2_bindIn_J68 (nI (tPl T (tKt T k j))) c iv2 ar2 la pA pB = some (c, iv2, au ar2 205 (tPl T (tKt T k j)) c, la, pA, pB) := by
    intro c iv2 ar2
    unfold mX2_bindIn_J68
    rw [if_neg (nI_pos (by omega)), if_neg (show ¬ (200 : Int32) ≤ nI (tPl T (tKt T k j)) from nI_ge hph (by decide)), if_neg (by first | exact nI_in (by omega) (by omega) | exact nI_inn (by omega) (by omega)), ncl (by omega)]
  unfold mX2_bindIn mX12_bindFor
  rw [c_wordB hA hcl hk, obce, if_neg hkn, ncl (show k < 2147483648 by omega), (hre k hk).1.1]
  -- 21 and 33
  have fn : tWd T k = 21 ∨ tWd T k = 33 → ∃ t, t < g ∧ tF1 T k = nI t ∧ mX2_bindIn_J27 (nI (tPl T k)) (nI (tPl T (tKt T k j))) iv ar la pA pB = some (nI t, iv, au ar 205 (tPl T (tKt T k j)) (nI t), la, pA, pB) ∧ aw 34 k = nI t ∧ tBd T k (tTp T k j) ∧ ∀ va2 : Nat → Nat, va2 (tKt T k j) = t → vaR kd lb pt T ty va2 k (tTp T k j) := by
    intro e
    obtain ⟨-, t, ht0, hf1⟩ := hO.2.2.1 e
    obtain ⟨w1, w2⟩ := (hcl.2 k hk).1.2.1.1 (by omega)
    refine ⟨t, (hG0 t ht0).1, hf1, ?_, by rw [(hre k hk).1.2.2.1, hf1], ?_, fun va2 hv => ⟨fun _ => ?_, fun h32 => by omega⟩⟩
    · have := c_word1 (iv := iv) (ar := ar) (la := la) (pA := pA) (pB := pB) (p := tPl T k) (d := 1) w1
      rw [w2, hf1] at this
      have this' : mX6_wordB (nI (tPl T k) + 1) iv ar la pA pB = some (nI t, iv, ar, la, pA, pB) := this
      unfold mX2_bindIn_J27
      rw [this', obce, h68]
    · rcases e with e | e
      · exact Or.inl e
      · exact Or.inr (Or.inl e)
    · have : va2 (tIn T k (tTp T k j)) = t := hv
      rw [this]
      exact hf1
  by_cases e21 : tWd T k = 21
  · obtain ⟨t, t1, t2, t3, t4, t5, t6⟩ := fn (Or.inl e21)
    rw [if_pos (show nI (tWd T k) = 21 by rw [e21]; rfl), if_pos (show nI (tWd T k) = 21 by rw [e21]; rfl), if_neg hkm, t3, t4]
    exact ⟨nI t, nI t, g, kd, lb, pt, iv, ar, iw, aw, rfl, rfl, grow_r hg.1, hg, fD_r _ _, fE_r _ _, rfl, Or.inr (Or.inl ⟨t5, t, t1, rfl, rfl, h24, t6⟩)⟩
  rw [if_neg (show ¬ nI (tWd T k) = 21 from fun q => e21 ((nI_eq (b := 21) (by omega) (by decide)).mp q)), if_neg (show ¬ nI (tWd T k) = 21 from fun q => e21 ((nI_eq (b := 21) (by omega) (by decide)).mp q)), if_neg hkm]
  by_cases e33 : tWd T k = 33
  · obtain ⟨t, t1, t2, t3, t4, t5, t6⟩ := fn (Or.inr e33)
    rw [if_pos (show nI (tWd T k) = 33 by rw [e33]; rfl), if_pos (show nI (tWd T k) = 33 by rw [e33]; rfl), if_neg hkm, t3, t4]
    exact ⟨nI t, nI t, g, kd, lb, pt, iv, ar, iw, aw, rfl, rfl, grow_r hg.1, hg, fD_r _ _, fE_r _ _, rfl, Or.inr (Or.inl ⟨t5, t, t1, rfl, rfl, h24, t6⟩)⟩
  rw [if_neg (show ¬ nI (tWd T k) = 33 from fun q => e33 ((nI_eq (b := 33) (by omega) (by decide)).mp q)), if_neg (show ¬ nI (tWd T k) = 33 from fun q => e33 ((nI_eq (b := 33) (by omega) (by decide)).mp q)), if_neg hkm]
  have none' : ¬ tBd T k (tTp T k j) → ∃ (c r : Int32) (g2 : Nat) (kd2 lb2 : Nat → Nat) (pt2 : Nat → Nat → Nat) (iv2 : mI) (ar2 : mA) (iw2 : mI) (aw2 : mA), mX2_bindIn_J68 (nI (tPl T (tKt T k j))) (-1) iv ar la pA pB = some (c, iv2, au ar2 205 (tPl T (tKt T k j)) c, la, pA, pB) ∧ some ((-1 : Int32), iw, aw) = some (r, iw2, aw2) ∧ grow g kd lb pt g2 kd2 lb2 pt2 ∧ gAll g2 kd2 lb2 pt2 iv2 ar2 la iw2 aw2 ∧ fD iv ar iv2 ar2 ∧ fE iw aw iw2 aw2 ∧ iw2 2 = iw 2 ∧ ((¬ tBd T k (tTp T k j) ∧ c = m1 ∧ r = m1 ∧ iw2 24 = 0) ∨ (tBd T k (tTp T k j) ∧ ∃ t, t < g2 ∧ c = nI t ∧ r = nI t ∧ iw2 24 = 0 ∧ ∀ va2 : Nat → Nat, va2 (tKt T k j) = t → vaR kd2 lb2 pt2 T ty va2 k (tTp T k j)) ∨ (c = m3 ∧ r = 0 ∧ iw2 24 = m3)) := fun hb => ⟨-1, -1, g, kd, lb, pt, iv, ar, iw, aw, h68 _ _ _, rfl, grow_r hg.1, hg, fD_r _ _, fE_r _ _, rfl, Or.inl ⟨hb, rfl, rfl, h24⟩⟩
  by_cases e32 : tWd T k = 32
  · rw [if_pos (show nI (tWd T k) = 32 by rw [e32]; rfl), if_pos (show nI (tWd T k) = 32 by rw [e32]; rfl)]
    by_cases j0 : j = 0
    · rw [if_pos (show nI j ≤ (0 : Int32) by rw [j0]; decide), if_pos (show nI j = 0 by rw [j0]; rfl)]
      refine none' (fun hb => ?_)
      unfold tBd tTp at hb
      rw [if_pos e32, if_pos j0] at hb
      omega
    · rw [if_neg (show ¬ nI j ≤ (0 : Int32) from nI_ge (show 0 < j by omega) (by omega)), if_neg (show ¬ nI j = 0 from fun q => j0 ((nI_eq (b := 0) (by omega) (by decide)).mp q)), if_neg hkm]
      have etp : tTp T k j = j - 1 := by unfold tTp; rw [if_pos e32, if_neg j0]
      have ekt : tKt T k j = tIn T k (j - 1) := by unfold tKt; rw [etp]
      have hbd : tBd T k (tTp T k j) := by rw [etp]; exact Or.inr (Or.inr ⟨e32, by omega⟩)
      have hld : tLd T k (j - 1) := Or.inr ⟨e32, by omega⟩
      have hl8 := (((hA.2.2 k hk).2.2 (j - 1) (by rw [tAll_mn hA hk]; omega)).2.2.1 hld).1
      obtain ⟨t1, t2, t3⟩ := hlast e32 (by omega)
      obtain ⟨x1, x2, x3⟩ := hg.2.2.1.2 _ t1
      obtain ⟨y1, y2, y3⟩ := hg.2.2.2.1.2 _ t1
      obtain ⟨k1, k2, k3, k4, k5⟩ := hg.2.1 _ t1
      have hn1 : nI (tNk T k) - 1 = nI (tNk T k - 1) := by rw [show tNk T k = (tNk T k - 1) + 1 by omega, nsub1, Nat.add_sub_cancel]
      have e0 : mX2_typeIn (nI (tPl T k)) (nI (tNk T k - 1)) iv ar la pA pB = some (nI (ty (tIn T k (tNk T k - 1))), iv, ar, la, pA, pB) := c_typeIn hA hcl hk (by omega) t2
      have r0 : mX12_typeInside (nI k) (nI (tNk T k - 1)) iw aw = some (nI (ty (tIn T k (tNk T k - 1))), iw, aw) := r_tin hA hre hk (by omega) t3
      have hti := nI_in (c := ty (tIn T k (tNk T k - 1))) (N := 400) (by omega) (by decide)
      have htn := nI_inn (a := ty (tIn T k (tNk T k - 1))) (N := 400) (by omega) (by omega)
      have hkind := c_kind4 (la := la) (pA := pA) (pB := pB) hg.2.2.1.1 (show g ≤ 400 by omega) t1 x1
      have a38 : aw 38 k = nI (tNk T k) := by rw [(hre k hk).1.2.2.2.2, tAll_mn hA hk]
      have a37 : aw 37 (9 * k + (j - 1)) = nI (tLa T k (j - 1)) := ((hre k hk).2 (j - 1) (by rw [tAll_mn hA hk]; omega)).2 hld
      have hpt := c_partOf (la := la) (pA := pA) (pB := pB) (k := ty (tIn T k (tNk T k - 1))) (l := tLa T k (j - 1)) (show g ≤ 400 by omega) (fun k hk => (hg.2.1 k hk).2.1) hg.2.2.1 t1 (by omega)
      -- no such part: a NODE more
      have mk : (kd (ty (tIn T k (tNk T k - 1))) = 6 → (lb (ty (tIn T k (tNk T k - 1)))).testBit (tLa T k (j - 1)) = true → False) → ∃ (c r : Int32) (g2 : Nat) (kd2 lb2 : Nat → Nat) (pt2 : Nat → Nat → Nat) (iv2 : mI) (ar2 : mA) (iw2 : mI) (aw2 : mA), obc (mX2_typeOfCase_J42 (-1) iv ar la pA pB) (fun r63 iv63 ar63 la63 pA63 pB63 => mX2_bindIn_J68 (nI (tPl T (tKt T k j))) r63 iv63 ar63 la63 pA63 pB63) = some (c, iv2, au ar2 205 (tPl T (tKt T k j)) c, la, pA, pB) ∧ mX12_bindFor_J106 (nI (ty (tIn T k (tNk T k - 1)))) (nI (tLa T k (j - 1))) 0 iw aw = some (r, iw2, aw2) ∧ grow g kd lb pt g2 kd2 lb2 pt2 ∧ gAll g2 kd2 lb2 pt2 iv2 ar2 la iw2 aw2 ∧ fD iv ar iv2 ar2 ∧ fE iw aw iw2 aw2 ∧ iw2 2 = iw 2 ∧ ((¬ tBd T k (tTp T k j) ∧ c = m1 ∧ r = m1 ∧ iw2 24 = 0) ∨ (tBd T k (tTp T k j) ∧ ∃ t, t < g2 ∧ c = nI t ∧ r = nI t ∧ iw2 24 = 0 ∧ ∀ va2 : Nat → Nat, va2 (tKt T k j) = t → vaR kd2 lb2 pt2 T ty va2 k (tTp T k j)) ∨ (c = m3 ∧ r = 0 ∧ iw2 24 = m3)) := by
        intro hno
        obtain ⟨c, r, g2, kd2, lb2, pt2, iv2, ar2, iw2, aw2, a1, a2, a3, a4, a5, a6, a7, a8⟩ := leaf_both (pA := pA) (pB := pB) (K := 1) hg h24 (by omega)
        have a1' : mX3_make 1 iv ar la pA pB = some (c, iv2, ar2, la, pA, pB) := a1
        have a2' : mX12_more 1 iw aw = some (r, iw2, aw2) := a2
        refine ⟨c, r, g2, kd2, lb2, pt2, iv2, ar2, iw2, aw2, ?_, ?_, a3, a4, a5, a6, a7, ?_⟩
        · unfold mX2_typeOfCase_J42
          rw [if_pos rfl, a1', obce, obce, h68]
        · unfold mX12_bindFor_J106
          rw [if_pos rfl, a2', obe]
        · rcases a8 with ⟨b1, b2, b3, b4, b5⟩ | ⟨b1, b2, b3⟩
          · refine Or.inr (Or.inl ⟨hbd, g, b3, b1, b2, b4, fun va2 hv => ⟨fun h => by omega, fun _ _ q6 qb => ?_⟩⟩)
            rw [(a3.2.2 _ t1).1] at q6
            rw [(a3.2.2 _ t1).2.1, etp] at qb
            exact (hno q6 qb).elim
          · exact Or.inr (Or.inr ⟨b1, b2, b3⟩)
      rw [ekt, c_labelOf hA hcl hk (show j - 1 < tNk T k by omega) hld, obce, ← ekt, a38, hn1, r0, obe]
      unfold mX2_typeOfCase
      rw [c_count hA hcl hk, obce, hn1, e0, obce, hkind, obce]
      rw [show (9 : Int32) * nI k + nI j - 1 = nI (9 * k + (j - 1)) by rw [show (9 : Int32) = nI 9 from rfl, nmul, nadd, show 9 * k + j = (9 * k + (j - 1)) + 1 by omega, nsub1], if_neg (nI_in (c := 9 * k + (j - 1)) (N := 1800) (by omega) (by decide)), if_neg hti, ncl (show ty (tIn T k (tNk T k - 1)) < 2147483648 by omega), y1, ncl (show 9 * k + (j - 1) < 2147483648 by omega), a37, y2]
      by_cases q6 : kd (ty (tIn T k (tNk T k - 1))) = 6
      · rw [if_pos (show nI (kd (ty (tIn T k (tNk T k - 1)))) = 6 by rw [q6]; rfl), if_pos (show nI (kd (ty (tIn T k (tNk T k - 1)))) = 6 by rw [q6]; rfl), if_neg htn, hpt, obce]
        by_cases qb : (lb (ty (tIn T k (tNk T k - 1)))).testBit (tLa T k (j - 1)) = true
        · have u := k5 _ hl8 qb
          rw [if_pos (show tLa T k (j - 1) < 8 ∧ (lb (ty (tIn T k (tNk T k - 1)))).testBit (tLa T k (j - 1)) = true from ⟨hl8, qb⟩), if_pos (show ((nI (lb (ty (tIn T k (tNk T k - 1)))) >>> (nI (tLa T k (j - 1)) &&& 31)) &&& 1) = 1 by rw [bit_get k2 hl8]; exact qb)]
          refine ⟨nI (pt (ty (tIn T k (tNk T k - 1))) (tLa T k (j - 1))), nI (pt (ty (tIn T k (tNk T k - 1))) (tLa T k (j - 1))), g, kd, lb, pt, iv, ar, iw, aw, ?_, ?_, grow_r hg.1, hg, fD_r _ _, fE_r _ _, rfl, Or.inr (Or.inl ⟨hbd, _, u, rfl, rfl, h24, fun va2 hv => ⟨fun h => by omega, fun _ _ _ _ => ?_⟩⟩)⟩
          · unfold mX2_typeOfCase_J42
            rw [if_neg (show ¬ nI (pt (ty (tIn T k (tNk T k - 1))) (tLa T k (j - 1))) = -1 by rw [nm1ne (by omega)]; exact id), obce, h68]
          · unfold mX12_bindFor_J106
            rw [if_neg (show ¬ (1 : Int32) = 0 by decide), r_partT (l := tLa T k (j - 1)) (by omega) hl8 (y3 _ hl8 qb), obe]
          · rw [etp]
            rw [ekt] at hv
            exact hv
        · rw [if_neg (show ¬ (tLa T k (j - 1) < 8 ∧ (lb (ty (tIn T k (tNk T k - 1)))).testBit (tLa T k (j - 1)) = true) from fun hh => qb hh.2), if_neg (show ¬ ((nI (lb (ty (tIn T k (tNk T k - 1)))) >>> (nI (tLa T k (j - 1)) &&& 31)) &&& 1) = 1 by rw [bit_get k2 hl8]; exact qb)]
          exact mk (fun _ h => qb h)
      · rw [if_neg (show ¬ nI (kd (ty (tIn T k (tNk T k - 1)))) = 6 from fun q => q6 ((nI_eq (b := 6) (by omega) (by decide)).mp q)), if_neg (show ¬ nI (kd (ty (tIn T k (tNk T k - 1)))) = 6 from fun q => q6 ((nI_eq (b := 6) (by omega) (by decide)).mp q))]
        exact mk (fun h _ => q6 h)
  · rw [if_neg (show ¬ nI (tWd T k) = 32 from fun q => e32 ((nI_eq (b := 32) (by omega) (by decide)).mp q)), if_neg (show ¬ nI (tWd T k) = 32 from fun q => e32 ((nI_eq (b := 32) (by omega) (by decide)).mp q))]
    refine none' (fun hb => ?_)
    unfold tBd at hb
    omega
end
