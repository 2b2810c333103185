theorem jrs_push {f n : Nat} {kd th ta tb : Nat → Nat} {h a b r h2 a2 b2 : Nat} (q : jrs f n kd th ta tb h a b r) : jrs f (n + 1) kd (va_up th n h2) (va_up ta n a2) (va_up tb n b2) h a b r := by
  rcases q with q | ⟨q1, q2, q3, q4, q5⟩
  · exact Or.inl q
  · have e : r ≠ n := by omega
    exact Or.inr ⟨q1, by omega, by rw [va_up_ne _ _ e]; exact q3, by rw [va_up_ne _ _ e]; exact q4, by rw [va_up_ne _ _ e]; exact q5⟩
theorem jG_push {f n : Nat} {kd lb : Nat → Nat} {pt : Nat → Nat → Nat} {th ta tb P : Nat → Nat} {rs : Nat → Nat → Nat} {os : List Nat} (hG : jG f n kd lb pt th ta tb P rs os) (hn : n < 200) {h a b : Nat} (hh : h < 2) (ha : a < f) (hb : b < f) (hs : jsim kd h a b = none) (hno : ∀ k, f ≤ k → k < n → ¬ (th k = h ∧ ta k = a ∧ tb k = b)) : jG f (n + 1) kd lb pt (va_up th n h) (va_up ta n a) (va_up tb n b) (va_up P n (if jkind kd h a b < 4 then 8 else 0)) rs (if jkind kd h a b < 4 then os else n :: os) := by
  obtain ⟨⟨g1, g2⟩, g3, g4, g5, g6, g7⟩ := hG
  have hnos : n ∉ os := fun q => by have := g5 n q; omega
  refine ⟨⟨by omega, by omega⟩, fun m h1 h2 => ?_, fun m m2 a1 a2 a3 a4 e1 e2 e3 => ?_, fun o ho => ?_, ?_, fun m h1 h2 hm => ?_⟩
  · by_cases e : m = n
    · subst e
      simp only [upr, if_true]
      refine ⟨hh, ha, hb, hs, by split <;> omega, fun l hl hlP hlab hbt => ?_⟩
      by_cases k4 : jkind kd h a b < 4
      · unfold jlab at hlab
        rw [if_pos k4, Nat.zero_testBit] at hlab
        cases hlab
      · rw [if_neg k4] at hlP
        omega
    · obtain ⟨b1, b2, b3, b4, b5, b6⟩ := g3 m h1 (by omega)
      rw [va_up_ne _ _ e, va_up_ne _ _ e, va_up_ne _ _ e, va_up_ne _ _ e]
      exact ⟨b1, b2, b3, b4, b5, fun l hl hlP hlab hbt => jrs_push (b6 l hl hlP hlab hbt)⟩
  · simp only [upr] at e1 e2 e3
    by_cases i1 : m = n <;> by_cases j1 : m2 = n
    · omega
    · simp only [i1, j1, if_true, if_false] at e1 e2 e3
      exact absurd ⟨e1.symm, e2.symm, e3.symm⟩ (hno m2 a3 (by omega))
    · simp only [i1, j1, if_true, if_false] at e1 e2 e3
      exact absurd ⟨e1, e2, e3⟩ (hno m a1 (by omega))
    · simp only [i1, j1, if_false] at e1 e2 e3
      exact g4 m m2 a1 (by omega) a3 (by omega) e1 e2 e3
  · by_cases k4 : jkind kd h a b < 4
    · rw [if_pos k4] at ho
      have := g5 o ho
      have hne : ¬ o = n := by omega
      simp only [upr, hne, if_false]
      exact ⟨this.1, by omega, this.2.2⟩
    · rw [if_neg k4] at ho
      rcases List.mem_cons.mp ho with rfl | ho
      · simp only [upr, if_true]
        exact ⟨by omega, by omega, by omega⟩
      · have := g5 o ho
        have hne : ¬ o = n := by omega
        simp only [upr, hne, if_false]
        exact ⟨this.1, by omega, this.2.2⟩
  · split
    · exact g6
    · exact List.nodup_cons.mpr ⟨hnos, g6⟩
  · by_cases k4 : jkind kd h a b < 4
    · rw [if_pos k4] at hm
      by_cases e : m = n
      · simp only [upr, e, if_true, if_pos k4]
      · simp only [upr, e, if_false]
        exact g7 m h1 (by omega) hm
    · rw [if_neg k4] at hm
      have e : ¬ m = n := fun q => hm (by rw [q]; exact List.mem_cons_self)
      simp only [upr, e, if_false]
      exact g7 m h1 (by omega) (fun q => hm (List.mem_cons_of_mem _ q))
theorem jsim_in {f : Nat} {kd : Nat → Nat} {h a b r : Nat} (ha : a < f) (hb : b < f) (h1 : jsim kd h a b = some r) : r < f := by
  unfold jsim at h1
  split at h1
  · cases h1; exact ha
  · split at h1
    · cases h1; exact hb
    · split at h1
      · cases h1; exact ha
      · split at h1
        · cases h1; exact ha
        · split at h1
          · cases h1; exact hb
          · split at h1
            · cases h1; exact ha
            · cases h1
/-- two to be joined, on both sides: known, made, or no room -/
theorem top_both {f n : Nat} {kd lb : Nat → Nat} {pt : Nat → Nat → Nat} {th ta tb P Q : Nat → Nat} {rs : Nat → Nat → Nat} {os : List Nat} {qs : List Ask} {iv : mI} {ar : mA} {la : mL} {pA pB : mA} {iw : mI} {aw : mA} (hGr : Gr f kd lb pt) (hG : jG f n kd lb pt th ta tb P rs os) (hC : jC f n kd lb pt th ta tb P Q rs os iv ar) (hR : jR f n kd lb pt th ta tb P rs qs iw aw) {h a b : Nat} (hh : h < 2) (ha : a < f) (hb : b < f) (hos : os.length < 200) (hq : qs.length + 8 < 4000) :
    (∃ r, (r < n ∧ jrs f n kd th ta tb h a b r) ∧ mX0_joinTop (nI h) (nI a) (nI b) iv ar la pA pB = some (nI r, iv, ar, la, pA, pB) ∧ (mX12_simple (nI h) (nI a) (nI b) iw aw = some (nI r, iw, aw) ∨ (mX12_simple (nI h) (nI a) (nI b) iw aw = some (m1, iw, aw) ∧ mX12_findMade (nI h) (nI a) (nI b) iw aw = some (nI r, iw, aw)))) ∨
    (mX12_simple (nI h) (nI a) (nI b) iw aw = some (m1, iw, aw) ∧ mX12_findMade (nI h) (nI a) (nI b) iw aw = some (m1, iw, aw) ∧ ((n = 200 ∧ mX0_joinTop (nI h) (nI a) (nI b) iv ar la pA pB = some (m3, iv, ar, la, pA, pB)) ∨
      (n < 200 ∧ ∃ (iv2 : mI) (ar2 : mA) (iw2 : mI) (aw2 : mA), mX0_joinTop (nI h) (nI a) (nI b) iv ar la pA pB = some (nI n, iv2, ar2, la, pA, pB) ∧ mX12_make (nI h) (nI a) (nI b) iw aw = some (nI n, iw2, aw2) ∧ (∀ k, k ≠ 303 → k ≠ 4 → iv2 k = iv k) ∧ (∀ k, k ≠ 300 → k ≠ 301 → k ≠ 1 → k ≠ 2 → k ≠ 3 → ar2 k = ar k) ∧ (∀ k, k ≠ 3 → k ≠ 17 → k ≠ 22 → iw2 k = iw k) ∧ (∀ j, j < 4 ∨ (6 < j ∧ j < 12) ∨ 21 < j → aw2 j = aw j) ∧
        jG f (n + 1) kd lb pt (va_up th n h) (va_up ta n a) (va_up tb n b) (va_up P n (if jkind kd h a b < 4 then 8 else 0)) rs (if jkind kd h a b < 4 then os else n :: os) ∧
        jC f (n + 1) kd lb pt (va_up th n h) (va_up ta n a) (va_up tb n b) (va_up P n (if jkind kd h a b < 4 then 8 else 0)) (va_up Q n (if jkind kd h a b < 4 then 8 else 0)) rs (if jkind kd h a b < 4 then os else n :: os) iv2 ar2 ∧
        jR f (n + 1) kd lb pt (va_up th n h) (va_up ta n a) (va_up tb n b) (va_up P n (if jkind kd h a b < 4 then 8 else 0)) rs (if jkind kd h a b < 4 then qs else jal kd lb pt (va_up th n h) (va_up ta n a) (va_up tb n b) n 0 ++ qs) iw2 aw2))) := by
  have g1 := hG.1.1
  have g2 := hG.1.2
  have hk6 : ∀ k, k < f → kd k ≤ 6 := fun k hk => (hGr k hk).1
  have ct := c_top (la := la) (pA := pA) (pB := pB) g2 g1 hC.1.1 (fun k hk => (hC.2.1 k hk).1) hk6 hh ha hb
  have rsim := r_simple (iw := iw) (aw := aw) (show f ≤ 200 by omega) (fun k hk => (hR.2.1 k hk).1) hk6 hh ha hb
  cases hj : jsim kd h a b with
  | some r =>
    rw [hj] at ct rsim
    have := jsim_in ha hb hj
    exact Or.inl ⟨r, ⟨by omega, Or.inl hj⟩, ct, Or.inl rsim⟩
  | none =>
    rw [hj] at ct rsim
    have ct : mX0_joinTop (nI h) (nI a) (nI b) iv ar la pA pB = mX0_joinTop_J124 (nI h) (nI a) (nI b) (nI h) (nI (kd a)) (nI (kd b)) iv ar la pA pB := ct
    have rsim : mX12_simple (nI h) (nI a) (nI b) iw aw = some (m1, iw, aw) := rsim
    have ka := hk6 a ha
    have kb := hk6 b hb
    have hmf : ∀ x, mX0_madeFor_L5 bigF (nI (jk h a b)) (nI f) iv ar la pA pB = x → mX0_madeFor (nI (jk h a b)) iv ar la pA pB = x := fun x q => by
      unfold mX0_madeFor
      rw [hC.1.2.1]
      exact q
    have hfm : ∀ x, mX12_findMade_L3 bigF (nI h) (nI a) (nI b) (nI (f - f)) iw aw = x → mX12_findMade (nI h) (nI a) (nI b) iw aw = x := fun x q => by
      unfold mX12_findMade
      generalize bigF = F at q ⊢
      rw [nz]
      rw [Nat.sub_self] at q
      exact q
    rcases madeFor_loop (la := la) (pA := pA) (pB := pB) hG hC hh ha hb bigF f (by unfold bigF; omega) (Nat.le_refl f) g1 (fun k k1 k2 => by omega) with ⟨k, k1, k2, k3, k4, k5, k6⟩ | ⟨hno, k6⟩
    · rcases findMade_loop hG hR hh ha hb bigF f (by unfold bigF; omega) (Nat.le_refl f) g1 (fun k k1 k2 => by omega) with ⟨j, j1, j2, j3, j4, j5, j6⟩ | ⟨hno, -⟩
      · have ejk := hG.2.2.1 j k j1 j2 k1 k2 (by omega) (by omega) (by omega)
        subst ejk
        refine Or.inl ⟨j, ⟨j2, Or.inr ⟨j1, j2, j3, j4, j5⟩⟩, ?_, Or.inr ⟨rsim, hfm _ j6⟩⟩
        rw [ct]
        unfold mX0_joinTop_J124
        rw [jk_eq hh (by omega) (by omega), hmf _ k6, obce, if_neg]
        rw [nm1ne (by omega)]
        exact fun q => q
      · exact absurd ⟨k3, k4, k5⟩ (hno k k1 k2)
    · rcases findMade_loop hG hR hh ha hb bigF f (by unfold bigF; omega) (Nat.le_refl f) g1 (fun k k1 k2 => by omega) with ⟨j, j1, j2, j3, j4, j5, j6⟩ | ⟨-, j6⟩
      · exact absurd ⟨j3, j4, j5⟩ (hno j j1 j2)
      · refine Or.inr ⟨rsim, hfm _ j6, ?_⟩
        have ct2 : mX0_joinTop (nI h) (nI a) (nI b) iv ar la pA pB = obc (mX0_makeFor (nI (jk h a b)) (nI (jkind kd h a b)) iv ar la pA pB) (fun r i x l y z => some (r, i, x, l, y, z)) := by
          rw [ct]
          unfold mX0_joinTop_J124
          rw [jk_eq hh (by omega) (by omega), hmf _ k6, obce, if_pos (show m1 = -1 from rfl)]
          unfold jkind
          by_cases e : kd a = kd b
          · rw [if_pos (by rw [e]), if_pos e]
          · rw [if_neg (by rw [neq (by omega) (by omega)]; exact e), if_neg e]
        by_cases hn : n = 200
        · refine Or.inl ⟨hn, ?_⟩
          rw [ct2]
          unfold mX0_makeFor mX3_size mX0_makeFor_J26
          rw [obce, hC.1.1, hn, if_pos (show (200 : Int32) ≤ nI 200 from nI_le (Nat.le_refl 200) (by decide)), if_pos (by decide), obce]
          rfl
        · have hn : n < 200 := by omega
          have hkk : jkind kd h a b ≤ 6 := by unfold jkind; split <;> omega
          obtain ⟨iv2, ar2, c1, c2, c3, c4⟩ := c_make (la := la) (pA := pA) (pB := pB) hG hC hn hh hkk hos
          obtain ⟨iw2, aw2, d1, d2, d3, d4⟩ := r_make hGr g1 hn hR hh ha hb hq
          refine Or.inr ⟨hn, iv2, ar2, iw2, aw2, ?_, d1, c2, c3, d2, d3, jG_push hG hn hh ha hb hj hno, c4, d4⟩
          rw [ct2, c1, obce]
