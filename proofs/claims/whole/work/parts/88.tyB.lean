section
variable {g0 : Nat} {kd0 lb0 : Nat → Nat} {g : Nat} {kd lb : Nat → Nat} {pt : Nat → Nat → Nat} {m : Nat} {T : TT} {ty va : Nat → Nat} {k : Nat} {iv : mI} {ar : mA} {la : mL} {pA pB : mA} {iw : mI} {aw : mA}
theorem ty20 (h : kAll g0 kd0 lb0 g kd lb pt m T ty va k iv ar la pB iw aw) (e : tWd T k = 20) : dOut g kd lb pt T ty va k iv ar pA pB iw aw (mX2_typeOf (nI (tPl T k)) iv ar la pA pB) (mX12_typeDone (nI k) (nI (tSc T k).length) iw aw) := by
  obtain ⟨h1, h2, h3⟩ := hw_of (pA := pA) h e
  obtain ⟨⟨hA, hG0⟩, ⟨hcl, hre, hk⟩, ⟨hg, h24⟩, hkid, hsc, hbd⟩ := id h
  obtain ⟨j, hh, j1, j2, j3⟩ := (hcl.2 k hk).2.2.2 e
  have hmem := List.mem_of_getElem? j2
  have hlt := chC_mem _ (hcl.2 k hk).2.2.1 hh hmem
  have hp := (hA.2.2 k hk).1.2.2
  have hph := (hA.2.2 hh hlt).1.2.2
  obtain ⟨v1, v2⟩ := hsc hh hmem
  obtain ⟨b1, b2⟩ := bnd_get _ j hh hbd j2
  have hsl := (hA.2.2 k hk).1.2.1
  obtain ⟨L, hL⟩ : ∃ L, (tSc T k).length = L + 1 := ⟨(tSc T k).length - 1, by omega⟩
  refine dOut_ok h (fun _ _ => rfl) hg.2.2.2.2 (fun _ _ => rfl) v1 ((by unfold tyR; refine ⟨?_, ?_, ?_, ?_, ?_, ?_, ?_, ?_, ?_, ?_, ?_⟩ <;> intro hq <;> first | (exfalso; omega) | exact (⟨j, hh, j1, j2, rfl⟩))) ?_ ?_
  · rw [tof20 h1]
    unfold mX6_homeB mX2_typeOfVariable
    rw [if_neg (nI_pos (by omega)), if_neg (show ¬ (200 : Int32) ≤ nI (tPl T k) from nI_ge hp (by decide)), if_neg (by first | exact nI_in (by omega) (by omega) | exact nI_inn (by omega) (by omega)), ncl (by omega), j3, obce, if_neg (nI_pos (by omega)), if_neg (show ¬ (200 : Int32) ≤ nI (tPl T hh) from nI_ge hph (by decide)), if_neg (by first | exact nI_in (by omega) (by omega) | exact nI_inn (by omega) (by omega)), ncl (by omega), v2, obce]
  · rw [tdn20 h3 h2, if_neg (by first | exact nI_in (by omega) (by omega) | exact nI_inn (by omega) (by omega)), ncl (by omega), (hre k hk).1.2.2.1, j1, hL, nsub1, nsub (show j ≤ L by omega), if_neg (by first | exact nI_in (by omega) (by omega) | exact nI_inn (by omega) (by omega)), ncl (by omega)]
    rw [hL, Nat.add_sub_cancel] at b2
    rw [b2]
theorem nums_both (h : kAll g0 kd0 lb0 g kd lb pt m T ty va k iv ar la pB iw aw) (h2 : tNk T k = 2) : ∃ b : Bool, mX2_bothNumbers (nI (tPl T k)) iv ar la pA pB = some (if b then 1 else 0, iv, ar, la, pA, pB) ∧ (ob (mX12_typeInside (nI k) 0 iw aw) (fun r184 iv184 ar184 => ob (mX12_isKind r184 2 iv184 ar184) (fun r188 iv188 ar188 => if r188 = 0 then mX12_typeDone_J213 (nI k) 0 iv188 ar188 else ob (mX12_typeInside (nI k) 1 iv188 ar188) (fun r198 iv198 ar198 => ob (mX12_isKind r198 2 iv198 ar198) (fun r202 iv202 ar202 => if r202 = 0 then mX12_typeDone_J213 (nI k) 0 iv202 ar202 else mX12_typeDone_J213 (nI k) 1 iv202 ar202))))) = mX12_typeDone_J213 (nI k) (if b then 1 else 0) iw aw := by
  obtain ⟨⟨hA, hG0⟩, ⟨hcl, hre, hk⟩, ⟨hg, h24⟩, hkid, hsc, hbd⟩ := id h
  obtain ⟨t1, t2, t3⟩ := hkid 0 (by omega)
  obtain ⟨s1, s2, s3⟩ := hkid 1 (by omega)
  have e0 : mX2_typeIn (nI (tPl T k)) 0 iv ar la pA pB = some (nI (ty (tIn T k 0)), iv, ar, la, pA, pB) := c_typeIn hA hcl hk (show 0 < tNk T k by omega) t2
  have e1 : mX2_typeIn (nI (tPl T k)) 1 iv ar la pA pB = some (nI (ty (tIn T k 1)), iv, ar, la, pA, pB) := c_typeIn hA hcl hk (show 1 < tNk T k by omega) s2
  have r0 : mX12_typeInside (nI k) 0 iw aw = some (nI (ty (tIn T k 0)), iw, aw) := r_tin hA hre hk (show 0 < tNk T k by omega) t3
  have r1 : mX12_typeInside (nI k) 1 iw aw = some (nI (ty (tIn T k 1)), iw, aw) := r_tin hA hre hk (show 1 < tNk T k by omega) s3
  have c0 := c_isOr (la := la) (pA := pA) (pB := pB) (K := 2) hg.2.2.1.1 hg.1 t1 (hg.2.2.1.2 _ t1).1 (hg.2.1 _ t1).1 (by omega)
  have c1 := c_isOr (la := la) (pA := pA) (pB := pB) (K := 2) hg.2.2.1.1 hg.1 s1 (hg.2.2.1.2 _ s1).1 (hg.2.1 _ s1).1 (by omega)
  have d0 := r_isKind (iw := iw) (K := 2) hg.1 t1 (hg.2.2.2.1.2 _ t1).1 (hg.2.1 _ t1).1 (by omega)
  have d1 := r_isKind (iw := iw) (K := 2) hg.1 s1 (hg.2.2.2.1.2 _ s1).1 (hg.2.1 _ s1).1 (by omega)
  unfold mX2_bothNumbers
  rw [e0, obce, show (2 : Int32) = nI 2 from rfl, c0, obce, r0, obe, d0, obe]
  by_cases q0 : kd (ty (tIn T k 0)) = 2 ∨ kd (ty (tIn T k 0)) = 1
  · rw [if_pos q0, if_neg (show ¬ (1 : Int32) = 0 by decide), if_neg (show ¬ (1 : Int32) = 0 by decide), e1, obce, c1, obce, r1, obe, d1, obe]
    by_cases q1 : kd (ty (tIn T k 1)) = 2 ∨ kd (ty (tIn T k 1)) = 1
    · rw [if_pos q1, if_neg (show ¬ (1 : Int32) = 0 by decide), if_neg (show ¬ (1 : Int32) = 0 by decide)]
      exact ⟨true, rfl, rfl⟩
    · rw [if_neg q1, if_pos rfl, if_pos rfl]
      exact ⟨false, rfl, rfl⟩
  · rw [if_neg q0, if_pos rfl, if_pos rfl]
    exact ⟨false, rfl, rfl⟩
theorem ty24 (h : kAll g0 kd0 lb0 g kd lb pt m T ty va k iv ar la pB iw aw) (e : tWd T k = 24 ∨ tWd T k = 25) (b : Int32) : dOut g kd lb pt T ty va k iv ar pA pB iw aw (mX2_typeOf (nI (tPl T k)) iv ar la pA pB) (mX12_typeDone (nI k) b iw aw) := by
  obtain ⟨⟨hA, hG0⟩, ⟨hcl, hre, hk⟩, ⟨hg, h24⟩, hkid, hsc, hbd⟩ := id h
  have hO := (hA.2.2 k hk).1.1
  have hn : tNk T k = 2 := hO.2.2.2.1 (by omega)
  have hk2 : k < 200 := Nat.lt_of_lt_of_le hk hA.2.1
  obtain ⟨bb, q1, q2⟩ := nums_both (pA := pA) h hn
  have hR : mX12_typeDone (nI k) b iw aw = mX12_typeDone_J213 (nI k) (if bb then 1 else 0) iw aw := by
    rw [← q2]
    rcases e with e | e
    · exact tdn24 hk2 (hw_of (pA := pA) h e).2.1
    · exact tdn25 hk2 (hw_of (pA := pA) h e).2.1
  rw [hR]
  unfold mX12_typeDone_J213
  cases bb
  · refine dOut_mis (r := 0) h (fun _ _ => rfl) hg.2.2.2.2 (fun _ _ => rfl) ?_ ?_
    · rcases e with e | e
      · rw [tof24 (hw_of h e).1, q1]; rfl
      · rw [tof25 (hw_of h e).1, q1]; rfl
    · rw [if_pos (show (if false = true then (1 : Int32) else 0) = 0 from rfl), r_mis hA.2.1 hre hk, obe]
  · rw [if_neg (show ¬ (if true = true then (1 : Int32) else 0) = 0 by decide), if_neg (by first | exact nI_in (by omega) (by omega) | exact nI_inn (by omega) (by omega)), ncl (by omega)]
    rcases e with e | e
    · rw [(hw_of (pA := pA) h e).2.1, if_pos (show nI 24 = 24 from rfl), tof24 (hw_of h e).1, q1, obce, if_neg (show ¬ (if true = true then (1 : Int32) else 0) = 0 by decide)]
      exact ty_leaf (K := 2) h (by omega) (fun kd2 lb2 pt2 t ht => (by unfold tyR; refine ⟨?_, ?_, ?_, ?_, ?_, ?_, ?_, ?_, ?_, ?_, ?_⟩ <;> intro hq <;> first | (exfalso; omega) | exact (ht))) (obc_id _) (ob_id _)
    · rw [(hw_of (pA := pA) h e).2.1, if_neg (show ¬ nI 25 = 24 by decide), tof25 (hw_of h e).1, q1, obce, if_neg (show ¬ (if true = true then (1 : Int32) else 0) = 0 by decide)]
      exact ty_leaf (K := 3) h (by omega) (fun kd2 lb2 pt2 t ht => (by unfold tyR; refine ⟨?_, ?_, ?_, ?_, ?_, ?_, ?_, ?_, ?_, ?_, ?_⟩ <;> intro hq <;> first | (exfalso; omega) | exact (ht))) (obc_id _) (ob_id _)
/-- whether one is below another, in both -/
theorem bel_both (h : kAll g0 kd0 lb0 g kd lb pt m T ty va k iv ar la pB iw aw) {a b : Nat} (ha : a < g) (hb : b < g) : ∃ (iv2 : mI) (la2 : mL) (aw2 : mA), (∀ k, k ≠ 503 → iv2 k = iv k) ∧ ordI iv2 la2 ∧ (∀ j, j < 7 ∨ 11 < j → aw2 j = aw j) ∧ ((mX5_search (nI a) (nI b) iv ar la pA pB = some (-1, iv2, ar, la2, pA, pB) ∧ mX12_isBelow (nI a) (nI b) iw aw = some (1, iw, aw2) ∧ blw kd lb pt a b) ∨ (∃ rs, ¬ rs = -1 ∧ mX5_search (nI a) (nI b) iv ar la pA pB = some (rs, iv2, ar, la2, pA, pB) ∧ mX12_isBelow (nI a) (nI b) iw aw = some (0, iw, aw2))) := by
  obtain ⟨-, -, ⟨hg, -⟩, -⟩ := h
  obtain ⟨iv2, la2, aw2, f1, f2, f3, ⟨rs, s1, s2⟩, -⟩ := ord_both (pA := pA) (pB := pB) hg.1 hg.2.1 hg.2.2.1 hg.2.2.2.1 hg.2.2.2.2 ha hb
  refine ⟨iv2, la2, aw2, f1, f2, f3, ?_⟩
  rcases s2 with ⟨e, b1, b2⟩ | ⟨⟨e, e1, rfl⟩, b1, b2⟩
  · exact Or.inl ⟨by rw [s1, e]; rfl, b2, b1⟩
  · exact Or.inr ⟨nI e, by rw [nm1ne (by omega)]; exact id, s1, b2⟩
theorem ty22 (h : kAll g0 kd0 lb0 g kd lb pt m T ty va k iv ar la pB iw aw) (e : tWd T k = 22) (b : Int32) : dOut g kd lb pt T ty va k iv ar pA pB iw aw (mX2_typeOf (nI (tPl T k)) iv ar la pA pB) (mX12_typeDone (nI k) b iw aw) := by
  obtain ⟨h1, h2, h3⟩ := hw_of (pA := pA) h e
  obtain ⟨⟨hA, hG0⟩, ⟨hcl, hre, hk⟩, ⟨hg, h24⟩, hkid, hsc, hbd⟩ := id h
  have hn : tNk T k = 2 := (hA.2.2 k hk).1.1.2.2.2.1 (by omega)
  obtain ⟨t1, t2, t3⟩ := hkid 0 (by omega)
  obtain ⟨s1, s2, s3⟩ := hkid 1 (by omega)
  have e0 : mX2_typeIn (nI (tPl T k)) 0 iv ar la pA pB = some (nI (ty (tIn T k 0)), iv, ar, la, pA, pB) := c_typeIn hA hcl hk (show 0 < tNk T k by omega) t2
  have e1 : mX2_typeIn (nI (tPl T k)) 1 iv ar la pA pB = some (nI (ty (tIn T k 1)), iv, ar, la, pA, pB) := c_typeIn hA hcl hk (show 1 < tNk T k by omega) s2
  have r0 : mX12_typeInside (nI k) 0 iw aw = some (nI (ty (tIn T k 0)), iw, aw) := r_tin hA hre hk (show 0 < tNk T k by omega) t3
  have r1 : mX12_typeInside (nI k) 1 iw aw = some (nI (ty (tIn T k 1)), iw, aw) := r_tin hA hre hk (show 1 < tNk T k by omega) s3
  obtain ⟨k1, k2, k3, k4, k5⟩ := hg.2.1 _ t1
  obtain ⟨x1, x2, x3⟩ := hg.2.2.1.2 _ t1
  obtain ⟨y1, y2, y3⟩ := hg.2.2.2.1.2 _ t1
  have hg200 := hg.1
  have hti := nI_in (c := ty (tIn T k 0)) (N := 400) (by omega) (by decide)
  have htn := nI_inn (a := ty (tIn T k 0)) (N := 400) (by omega) (by omega)
  have hkind := c_kind4 (la := la) (pA := pA) (pB := pB) hg.2.2.1.1 (show g ≤ 400 by omega) t1 x1
  rw [tof22 h1, tdn22 h3 h2, ob_id]
  unfold mX2_typeOfApply mX12_typeApplied
  rw [e0, obce, e1, obce, hkind, obce, r0, obe, if_neg hti, ncl (show ty (tIn T k 0) < 2147483648 by omega), y1]
  by_cases q1 : kd (ty (tIn T k 0)) = 1
  · rw [if_pos (show nI (kd (ty (tIn T k 0))) = 1 by rw [q1]; rfl), if_pos (show nI (kd (ty (tIn T k 0))) = 1 by rw [q1]; rfl)]
    exact dOut_ok h (fun _ _ => rfl) hg.2.2.2.2 (fun _ _ => rfl) t1 ((by unfold tyR; refine ⟨?_, ?_, ?_, ?_, ?_, ?_, ?_, ?_, ?_, ?_, ?_⟩ <;> intro hq <;> first | (exfalso; omega) | exact (Or.inl q1))) rfl rfl
  · rw [if_neg (show ¬ nI (kd (ty (tIn T k 0))) = 1 from fun q => q1 ((nI_eq (b := 1) (by omega) (by decide)).mp q)), if_neg (show ¬ nI (kd (ty (tIn T k 0))) = 1 from fun q => q1 ((nI_eq (b := 1) (by omega) (by decide)).mp q)), hkind, obce, if_neg htn]
    by_cases q4 : kd (ty (tIn T k 0)) = 4
    · have b0 : (lb (ty (tIn T k 0))).testBit 0 = true := by rw [k4 q4]; decide
      have b1 : (lb (ty (tIn T k 0))).testBit 1 = true := by rw [k4 q4]; decide
      have p0 : mX3_partOf (nI (ty (tIn T k 0))) 0 iv ar la pA pB = some (nI (pt (ty (tIn T k 0)) 0), iv, ar, la, pA, pB) := by
        have := c_partOf (la := la) (pA := pA) (pB := pB) (k := ty (tIn T k 0)) (l := 0) (show g ≤ 400 by omega) (fun k hk => (hg.2.1 k hk).2.1) hg.2.2.1 t1 (by omega)
        rw [if_pos ⟨by omega, b0⟩] at this
        exact this
      have u0 := k5 0 (by omega) b0
      have u1 := k5 1 (by omega) b1
      rw [if_pos (show nI (kd (ty (tIn T k 0))) = 4 by rw [q4]; rfl), if_pos (show nI (kd (ty (tIn T k 0))) = 4 by rw [q4]; rfl), p0, obce, r1, obe, show mX12_part (nI (ty (tIn T k 0))) 0 iw aw = some (nI (pt (ty (tIn T k 0)) 0), iw, aw) from r_partT (l := 0) (by omega) (by omega) (y3 0 (by omega) b0), obe]
      obtain ⟨iv2, la2, aw2, f1, f2, f3, hbel⟩ := bel_both (pA := pA) h s1 u0
      rcases hbel with ⟨g1, g2, g3⟩ | ⟨rs, g1, g2, g3⟩
      · rw [g1, obce, if_pos rfl, g2, obe, if_neg (show ¬ (1 : Int32) = 0 by decide)]
        unfold mX2_typeOfApply_J52
        have p1 : mX3_partOf (nI (ty (tIn T k 0))) 1 iv2 ar la2 pA pB = some (nI (pt (ty (tIn T k 0)) 1), iv2, ar, la2, pA, pB) := by
          have := c_partOf (la := la2) (pA := pA) (pB := pB) (k := ty (tIn T k 0)) (l := 1) (show g ≤ 400 by omega) (fun k hk => (hg.2.1 k hk).2.1) (show cG g kd lb pt iv2 ar from ⟨by rw [f1 _ (by decide)]; exact hg.2.2.1.1, hg.2.2.1.2⟩) t1 (by omega)
          rw [if_pos ⟨by omega, b1⟩] at this
          exact this
        rw [if_neg (show ¬ (1 : Int32) = 0 by decide), p1, obce, obce, show mX12_part (nI (ty (tIn T k 0))) 1 iw aw2 = some (nI (pt (ty (tIn T k 0)) 1), iw, aw2) from r_partT (l := 1) (by omega) (by omega) (by rw [f3 6 (by decide)]; exact y3 1 (by omega) b1), obe]
        exact dOut_ok h f1 f2 f3 u1 ((by unfold tyR; refine ⟨?_, ?_, ?_, ?_, ?_, ?_, ?_, ?_, ?_, ?_, ?_⟩ <;> intro hq <;> first | (exfalso; omega) | exact (Or.inr ⟨q4, g3, rfl⟩))) rfl rfl
      · rw [g2, obce, if_neg g1, g3, obe, if_pos rfl]
        unfold mX2_typeOfApply_J52
        have hre2 : tRe m T aw2 := by
          unfold tRe
          rw [f3 32 (by decide), f3 33 (by decide), f3 34 (by decide), f3 35 (by decide), f3 38 (by decide), f3 36 (by decide), f3 37 (by decide)]
          exact hre
        rw [if_pos rfl, obce, r_mis hA.2.1 hre2 hk, obe]
        exact dOut_mis h f1 f2 f3 rfl rfl
    · rw [if_neg (show ¬ nI (kd (ty (tIn T k 0))) = 4 from fun q => q4 ((nI_eq (b := 4) (by omega) (by decide)).mp q)), if_neg (show ¬ nI (kd (ty (tIn T k 0))) = 4 from fun q => q4 ((nI_eq (b := 4) (by omega) (by decide)).mp q))]
      unfold mX2_typeOfApply_J52
      rw [if_pos rfl, obce, r_mis hA.2.1 hre hk, obe]
      exact dOut_mis h (fun _ _ => rfl) hg.2.2.2.2 (fun _ _ => rfl) rfl rfl
end
