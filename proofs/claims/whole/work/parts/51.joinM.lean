theorem c_turn {f n : Nat} {kd lb : Nat → Nat} {pt : Nat → Nat → Nat} {th ta tb P : Nat → Nat} {rs : Nat → Nat → Nat} {o : Nat} {os : List Nat} {iv : mI} {ar : mA} {la : mL} {pA pB : mA} (hGr : Gr f kd lb pt) (hG : jG f n kd lb pt th ta tb P rs (o :: os)) (hC : jC f n kd lb pt th ta tb P P rs (o :: os) iv ar) (hos : os.length < 200) {l : Nat} (hl : l < 8) (hP : P o = l) {t : Nat} (ht : t < 1800) {x y : Int32} (hy : ¬ y = -3) (fu : Nat) :
    jC f n kd lb pt th ta tb P (va_up P o (l + 1)) rs (o :: os) iv (au ar 3 os.length (nI (l + 1))) ∧
    (jboth lb (ta o) (tb o) l = true → mX0_join_L32 (fu + 1) x y (nI t) iv ar la pA pB = obc (mX0_joinTop (nI (jsub kd (th o) (ta o) l)) (nI (pt (ta o) l)) (nI (pt (tb o) l)) iv (au ar 3 os.length (nI (l + 1))) la pA pB) (fun r i a b c d => mX0_join_J193 (mX0_join_L32 fu) x (nI t) (nI o) (nI l) r i a b c d)) ∧
    (jboth lb (ta o) (tb o) l = false → mX0_join_L32 (fu + 1) x y (nI t) iv ar la pA pB = mX0_join_J193 (mX0_join_L32 fu) x (nI t) (nI o) (nI l) (if (jlab kd lb (th o) (ta o) (tb o)).testBit l = true then nI (jtgt lb pt ta tb rs o l) else m1) iv (au ar 3 os.length (nI (l + 1))) la pA pB) := by
  obtain ⟨⟨g1, g2⟩, g3, g4, g5, g6, g7⟩ := hG
  obtain ⟨⟨c1, c2, c3⟩, c4, c5, c6, c7, c8⟩ := hC
  rw [List.length_cons] at c3
  rw [hP] at c7
  obtain ⟨o1, o2, o3⟩ := g5 o List.mem_cons_self
  obtain ⟨b1, b2, b3, -⟩ := g3 o o1 o2
  obtain ⟨d1, d2, d3, d4⟩ := c5 o o1 o2
  obtain ⟨k1, k2⟩ := jkind_ge (kd := kd) (a := ta o) (b := tb o) b1 o3
  obtain ⟨ga1, ga2, -, -, ga5⟩ := hGr (ta o) b2
  obtain ⟨gb1, gb2, -, -, gb5⟩ := hGr (tb o) b3
  have hno : o ∉ os := (List.nodup_cons.mp g6).1
  have f1 : au ar 3 os.length (nI (l + 1)) 1 o = nI (jk (th o) (ta o) (tb o)) := by simp [aur]; exact d4
  have f2 : au ar 3 os.length (nI (l + 1)) 300 o = nI (jkind kd (th o) (ta o) (tb o)) := by simp [aur]; exact d1
  have f3 : ∀ k, k < f → au ar 3 os.length (nI (l + 1)) 301 k = nI (lb k) := fun k hk => by simp [aur]; exact (c4 k hk).2.1
  have f4 : ∀ k, k < f → (lb k).testBit l = true → au ar 3 os.length (nI (l + 1)) 302 (k * 8 + l) = nI (pt k l) := fun k hk hb => by simp [aur]; exact (c4 k hk).2.2 l hl hb
  have pa := c_partJ (la := la) (pA := pA) (pB := pB) (T := pt (ta o) l) g2 c1 ga2 (show ta o < n by omega) hl (f3 _ b2) (f4 _ b2)
  have pb := c_partJ (la := la) (pA := pA) (pB := pB) (T := pt (tb o) l) g2 c1 gb2 (show tb o < n by omega) hl (f3 _ b3) (f4 _ b3)
  have hhow := c_how (la := la) (pA := pA) (pB := pB) g2 c1 o2 hl b1 (show ta o < 200 by omega) (show tb o < 200 by omega) (show jkind kd (th o) (ta o) (tb o) ≤ 6 by omega) f2 f1
  have hlone := fun (x y : Int32) => c_lone (la := la) (pA := pA) (pB := pB) (x := x) (y := y) g2 c1 o2 b1 (show ta o < 200 by omega) (show tb o < 200 by omega) (show jkind kd (th o) (ta o) (tb o) ≤ 6 by omega) f2 f1
  have hstep : mX0_join_L32 (fu + 1) x y (nI t) iv ar la pA pB = (if (if (lb (ta o)).testBit l = true then nI (pt (ta o) l) else m1) = -1 then obc (mX0_lonePart (nI o) (if (lb (ta o)).testBit l = true then nI (pt (ta o) l) else m1) (if (lb (tb o)).testBit l = true then nI (pt (tb o) l) else m1) iv (au ar 3 os.length (nI (l + 1))) la pA pB) (fun r i a b c d => mX0_join_J193 (mX0_join_L32 fu) x (nI t) (nI o) (nI l) r i a b c d) else if (if (lb (tb o)).testBit l = true then nI (pt (tb o) l) else m1) = -1 then obc (mX0_lonePart (nI o) (if (lb (ta o)).testBit l = true then nI (pt (ta o) l) else m1) (if (lb (tb o)).testBit l = true then nI (pt (tb o) l) else m1) iv (au ar 3 os.length (nI (l + 1))) la pA pB) (fun r i a b c d => mX0_join_J193 (mX0_join_L32 fu) x (nI t) (nI o) (nI l) r i a b c d) else obc (mX0_howOfPart (nI o) (nI l) iv (au ar 3 os.length (nI (l + 1))) la pA pB) (fun r i a b c d => obc (mX0_joinTop r (if (lb (ta o)).testBit l = true then nI (pt (ta o) l) else m1) (if (lb (tb o)).testBit l = true then nI (pt (tb o) l) else m1) i a b c d) (fun r i a b c d => mX0_join_J193 (mX0_join_L32 fu) x (nI t) (nI o) (nI l) r i a b c d))) := by
    have hin : ¬ (nI os.length < 0 ∨ 200 ≤ (nI os.length).toNatClampNeg) := nI_in (by omega) (by omega)
    rw [mX0_join_L32, c3, if_neg (show ¬ nI (os.length + 1) ≤ 0 from nI_ge (show 0 < os.length + 1 by omega) (by omega)), if_neg hy, if_neg (show ¬ (1800 : Int32) ≤ nI t from nI_ge ht (by decide)), show (1 : Int32) = nI 1 from rfl, nsub (by omega), Nat.add_sub_cancel, if_neg hin, if_neg hin, ncl (show os.length < 2147483648 by omega), c7, if_pos (show nI l < (8 : Int32) from nI_lt hl (by decide)), if_neg (by rw [ncl (by omega)] at hin; exact hin), if_neg (by rw [ncl (by omega)] at hin; exact hin), c6, nadd, c_keyJ (show o < 200 by omega), obce, f1, jk_a b1 (by omega) (by omega), pa, obce, c_keyJ (show o < 200 by omega), obce, f1, jk_b b1 (by omega) (by omega), pb, obce]
  refine ⟨⟨⟨c1, c2, by rw [List.length_cons]; exact c3⟩, fun k hk => ?_, fun m h1 h2 => ?_, ?_⟩, fun hb => ?_, fun hb => ?_⟩
  · simp [aur]
    exact c4 k hk
  · simp [aur]
    exact c5 m h1 h2
  · refine ⟨by simp [aur]; exact c6, by simp [aur, upr], stkC_keep os os.length (Nat.le_refl _) (fun i hi => ?_) (fun m hm => va_up_ne _ _ (fun q => hno (by rw [← q]; exact hm))) c8⟩
    have hne : ¬ i = os.length := by omega
    simp [aur, hne]
  · unfold jboth at hb
    rw [Bool.and_eq_true] at hb
    have q1 := ga5 l hl hb.1
    have q2 := gb5 l hl hb.2
    rw [hstep, if_pos hb.1, if_pos hb.2, if_neg (by rw [nm1ne (by omega)]; exact id), if_neg (by rw [nm1ne (by omega)]; exact id), hhow, obce]
    unfold jsub
    rw [k2]
  · have hv := lone_val (rs := rs) hGr (show f ≤ 200 by omega) b1 b2 b3 o3 hl hb
    rw [hstep, ← hv, hlone, obce]
    by_cases qa : (lb (ta o)).testBit l = true
    · have qb : ¬ (lb (tb o)).testBit l = true := fun q => by
        unfold jboth at hb
        rw [qa, q] at hb
        cases hb
      have q1 := ga5 l hl qa
      rw [if_pos qa, if_neg qb, if_neg (show ¬ nI (pt (ta o) l) = -1 by rw [nm1ne (by omega)]; exact id), if_pos (show m1 = -1 from rfl)]
    · rw [if_neg qa, if_pos (show m1 = -1 from rfl)]
