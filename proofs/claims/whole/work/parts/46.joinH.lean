theorem jkind_ge {kd : Nat → Nat} {h a b : Nat} (hh : h < 2) (hk : 4 ≤ jkind kd h a b) : kd a = kd b ∧ jkind kd h a b = kd a := by
  unfold jkind at hk ⊢
  by_cases e : kd a = kd b
  · rw [if_pos e]; exact ⟨e, rfl⟩
  · rw [if_neg e] at hk; omega
theorem jlab_lt {kd lb : Nat → Nat} {h a b : Nat} (ha : lb a < 256) (hb : lb b < 256) : jlab kd lb h a b < 256 := by
  unfold jlab
  split
  · decide
  · split
    · decide
    · split
      · exact Nat.lt_of_le_of_lt Nat.and_le_left ha
      · exact Nat.or_lt_two_pow (n := 8) ha hb
theorem jlab_or {f : Nat} {kd lb : Nat → Nat} {pt : Nat → Nat → Nat} (hGr : Gr f kd lb pt) {h a b : Nat} (hh : h < 2) (ha : a < f) (hb : b < f) {l : Nat} (hl : (jlab kd lb h a b).testBit l = true) : (lb a).testBit l = true ∨ (lb b).testBit l = true := by
  unfold jlab at hl
  split at hl
  · rw [Nat.zero_testBit] at hl; cases hl
  · split at hl
    · rename_i q1 q2
      obtain ⟨e1, e2⟩ := jkind_ge (kd := kd) (a := a) (b := b) hh (by omega)
      rw [(hGr a ha).2.2.2.1 (by omega)]
      exact Or.inl hl
    · split at hl
      · rw [Nat.testBit_and, Bool.and_eq_true] at hl; exact Or.inl hl.1
      · rw [Nat.testBit_or, Bool.or_eq_true] at hl; exact hl
theorem jlab_both {f : Nat} {kd lb : Nat → Nat} {pt : Nat → Nat → Nat} (hGr : Gr f kd lb pt) {h a b : Nat} (hh : h < 2) (ha : a < f) (hb : b < f) (hk : 4 ≤ jkind kd h a b) {l : Nat} (hl : jboth lb a b l = true) : (jlab kd lb h a b).testBit l = true := by
  unfold jboth at hl
  rw [Bool.and_eq_true] at hl
  obtain ⟨e1, e2⟩ := jkind_ge (kd := kd) (a := a) (b := b) hh hk
  unfold jlab
  rw [if_neg (by omega)]
  split
  · have := (hGr a ha).2.2.2.1 (by omega)
    rw [this] at hl
    exact hl.1
  · split
    · rw [Nat.testBit_and, hl.1, hl.2]; rfl
    · rw [Nat.testBit_or, hl.1]; rfl
theorem r_make {f n : Nat} {kd lb : Nat → Nat} {pt : Nat → Nat → Nat} {th ta tb P : Nat → Nat} {rs : Nat → Nat → Nat} {qs : List Ask} {iw : mI} {aw : mA} (hGr : Gr f kd lb pt) (hfn : f ≤ n) (hn : n < 200) (hR : jR f n kd lb pt th ta tb P rs qs iw aw) {h a b : Nat} (hh : h < 2) (ha : a < f) (hb : b < f) (hq : qs.length + 8 < 4000) :
    ∃ (iw2 : mI) (aw2 : mA), mX12_make (nI h) (nI a) (nI b) iw aw = some (nI n, iw2, aw2) ∧ (∀ k, k ≠ 3 → k ≠ 17 → k ≠ 22 → iw2 k = iw k) ∧ (∀ j, j < 4 ∨ (6 < j ∧ j < 12) ∨ 21 < j → aw2 j = aw j) ∧
      jR f (n + 1) kd lb pt (va_up th n h) (va_up ta n a) (va_up tb n b) (va_up P n (if jkind kd h a b < 4 then 8 else 0)) rs (if jkind kd h a b < 4 then qs else jal kd lb pt (va_up th n h) (va_up ta n a) (va_up tb n b) n 0 ++ qs) iw2 aw2 := by
  obtain ⟨⟨r1, r2, r3⟩, r4, r5, r6⟩ := hR
  obtain ⟨a1, a2, a3⟩ := r4 a ha
  obtain ⟨b1, b2, b3⟩ := r4 b hb
  obtain ⟨ka, la1, -⟩ := hGr a ha
  obtain ⟨kb, lb1, -⟩ := hGr b hb
  have ia : ¬ (nI a < 0 ∨ 400 ≤ (nI a).toNatClampNeg) := nI_in (by omega) (by omega)
  have ib : ¬ (nI b < 0 ∨ 400 ≤ (nI b).toNatClampNeg) := nI_in (by omega) (by omega)
  have na : (nI a).toNatClampNeg = a := ncl (by omega)
  have nb : (nI b).toNatClampNeg = b := ncl (by omega)
  have hK6 : jkind kd h a b ≤ 6 := by unfold jkind; split <;> omega
  generalize hK : jkind kd h a b = K at *
  have hor1 : lb a ||| lb b < 256 := Nat.or_lt_two_pow (n := 8) la1 lb1
  have hand1 : lb a &&& lb b < 256 := Nat.lt_of_le_of_lt Nat.and_le_left la1
  -- the bits
  obtain ⟨bits, hbits, hlab, hJ⟩ : ∃ bits, bits < 256 ∧ (if K = 4 then 3 else bits) = jlab kd lb h a b ∧ mX12_make (nI h) (nI a) (nI b) iw aw = mX12_make_J121 (nI h) (nI a) (nI b) (nI K) (nI bits) iw aw := by
    have hJ45 : mX12_make (nI h) (nI a) (nI b) iw aw = mX12_make_J45 (nI h) (nI a) (nI b) (nI K) iw aw := by
      unfold mX12_make mX12_make_J20
      rw [if_neg ia, if_neg ib, na, nb, a1, b1]
      unfold jkind at hK
      by_cases e : kd a = kd b
      · rw [if_pos e] at hK
        rw [if_pos (by rw [e]), if_neg (by decide), if_neg (nin2 (by omega) (by omega)), hK]
      · rw [if_neg e] at hK
        rw [if_neg (by rw [neq (by omega) (by omega)]; exact e), if_pos rfl]
        rcases (show h = 0 ∨ h = 1 by omega) with rfl | rfl
        · rw [if_pos (show nI 0 = 0 from rfl), ← hK]; rfl
        · rw [if_neg (show ¬ nI 1 = 0 by decide), ← hK]; rfl
    have hJ75 : mX12_make_J45 (nI h) (nI a) (nI b) (nI K) iw aw = mX12_make_J75 (nI h) (nI a) (nI b) (nI K) (if (K = 5 ↔ h = 0) then 1 else 0) iw aw := by
      unfold mX12_make_J45 mX12_make_J58
      by_cases e5 : K = 5
      · rw [if_pos (show nI K = 5 by rw [e5]; rfl)]
        rcases (show h = 0 ∨ h = 1 by omega) with rfl | rfl
        · rw [if_pos (show nI 0 = 0 from rfl), if_pos rfl, if_pos (by simp [e5])]
        · rw [if_neg (show ¬ nI 1 = 0 by decide), if_neg (by decide), if_neg (by simp [e5])]
      · rw [if_neg (show ¬ nI K = 5 by rw [show (5 : Int32) = nI 5 from rfl, neq (by omega) (by omega)]; exact e5)]
        rcases (show h = 0 ∨ h = 1 by omega) with rfl | rfl
        · rw [if_pos (show nI 0 = 0 from rfl), if_neg (by decide), if_neg (by simp [e5])]
        · rw [if_neg (show ¬ nI 1 = 0 by decide), if_pos rfl, if_pos (by simp [e5])]
    rw [hJ45, hJ75]
    unfold mX12_make_J75
    by_cases k5 : 5 ≤ K
    · rw [if_pos (show (5 : Int32) ≤ nI K from nI_le k5 (by omega))]
      simp only [ia, ib, if_false]
      rw [na, nb, a2, b2, nor_ la1 lb1, nand_ la1 lb1]
      have e6 : K = 5 ∨ K = 6 := by omega
      by_cases hc : (K = 5 ↔ h = 0)
      · refine ⟨lb a &&& lb b, hand1, ?_, by rw [if_pos hc, if_neg (by decide)]⟩
        unfold jlab
        rw [hK, if_neg (by omega), if_neg (by omega), if_neg (by omega), if_pos (by omega)]
      · refine ⟨lb a ||| lb b, hor1, ?_, by rw [if_neg hc, if_pos rfl]⟩
        unfold jlab
        rw [hK, if_neg (by omega), if_neg (by omega), if_neg (by omega), if_neg (by omega)]
    · rw [if_neg (show ¬ (5 : Int32) ≤ nI K from nI_ge (show K < 5 by omega) (by decide))]
      refine ⟨0, by decide, ?_, rfl⟩
      unfold jlab
      rw [hK]
      by_cases e4 : K = 4
      · rw [if_pos e4, if_neg (by omega), if_pos e4]
      · rw [if_neg e4, if_pos (by omega)]
  obtain ⟨aw1, s1, s2, s3, s4, s5, s6⟩ := r_newNode (iw := iw) (aw := aw) (n := n) (by omega) r1 (k := K) (b := bits) hK6
  rw [hlab] at s5
  have e22 : va_up iw 3 (nI (n + 1)) 22 = nI (n - f) := by rw [va_up_ne _ _ (by decide)]; exact r2
  have i22 : ¬ (va_up iw 3 (nI (n + 1)) 22 < 0 ∨ 400 ≤ (va_up iw 3 (nI (n + 1)) 22).toNatClampNeg) := by rw [e22]; exact nI_in (by omega) (by omega)
  have inn : ¬ (nI n < 0 ∨ 400 ≤ (nI n).toNatClampNeg) := nI_in (by omega) (by omega)
  have hlabs := jlab_lt (kd := kd) (h := h) la1 lb1
  -- the memory ahead of the labels
  have m18 : ∀ j, j < 18 ∨ 21 < j → au (au (au (au aw1 18 (n - f) (nI h)) 19 (n - f) (nI a)) 20 (n - f) (nI b)) 21 (n - f) (nI n) j = aw1 j := fun j hj => by
    unfold au
    rw [va_up_ne _ _ (by omega), va_up_ne _ _ (by omega), va_up_ne _ _ (by omega), va_up_ne _ _ (by omega)]
  have q18 : ∀ p, au (au (au (au aw1 18 (n - f) (nI h)) 19 (n - f) (nI a)) 20 (n - f) (nI b)) 21 (n - f) (nI n) 18 p = if p = n - f then nI h else aw1 18 p := fun p => by simp [aur]
  have q19 : ∀ p, au (au (au (au aw1 18 (n - f) (nI h)) 19 (n - f) (nI a)) 20 (n - f) (nI b)) 21 (n - f) (nI n) 19 p = if p = n - f then nI a else aw1 19 p := fun p => by simp [aur]
  have q20 : ∀ p, au (au (au (au aw1 18 (n - f) (nI h)) 19 (n - f) (nI a)) 20 (n - f) (nI b)) 21 (n - f) (nI n) 20 p = if p = n - f then nI b else aw1 20 p := fun p => by simp [aur]
  have q21 : ∀ p, au (au (au (au aw1 18 (n - f) (nI h)) 19 (n - f) (nI a)) 20 (n - f) (nI b)) 21 (n - f) (nI n) 21 p = if p = n - f then nI n else aw1 21 p := fun p => by simp [aur]
  have hJ2 : mX12_make_J121 (nI h) (nI a) (nI b) (nI K) (nI bits) iw aw = mX12_make_L207 bigF (nI h) (nI a) (nI b) (nI K) (nI n) (nI (jlab kd lb h a b)) (jL10 8) (va_up (va_up iw 3 (nI (n + 1))) 22 (nI (n - f + 1))) (au (au (au (au aw1 18 (n - f) (nI h)) 19 (n - f) (nI a)) 20 (n - f) (nI b)) 21 (n - f) (nI n)) := by
    unfold mX12_make_J121
    rw [s1, obe]
    simp only [i22, inn, if_false]
    rw [e22, ncl (a := n - f) (by omega), ncl (a := n) (by omega), m18 5 (by decide), s5, show (1 : Int32) = nI 1 from rfl, nadd]
    by_cases k4 : 4 ≤ K
    · rw [if_pos (show (4 : Int32) ≤ nI K from nI_le k4 (by omega))]
      rfl
    · rw [if_neg (show ¬ (4 : Int32) ≤ nI K from nI_ge (show K < 4 by omega) (by decide))]
      have : jlab kd lb h a b = 0 := by unfold jlab; rw [hK, if_pos (by omega)]
      rw [this]
      rfl
  generalize au (au (au (au aw1 18 (n - f) (nI h)) 19 (n - f) (nI a)) 20 (n - f) (nI b)) 21 (n - f) (nI n) = awm at *
  obtain ⟨iw2, aw2, t1, t2, t3, t4, t5, t6, t7⟩ := make_loop hfn hn (fun k hk => (hGr k hk).2.1) hh ha hb (K := K) (all := jlab kd lb h a b) (kd := kd) (pt := pt) (fun hne => by
      have : 4 ≤ K := by
        apply Classical.byContradiction
        intro q
        apply hne
        unfold jlab
        rw [hK, if_pos (by omega)]
      have := jkind_ge (kd := kd) (a := a) (b := b) hh (by rw [hK]; exact this)
      rw [hK] at this
      exact this.2) hK6 hlabs (fun l hl q => jlab_or hGr hh ha hb q) bigF 8 qs (va_up (va_up iw 3 (nI (n + 1))) 22 (nI (n - f + 1))) awm (by omega) (by unfold bigF; omega) hq (by rw [va_up_ne _ _ (by decide), va_up_ne _ _ (by decide)]; exact r3) (stkR_keep qs (fun j j1 j2 => by rw [m18 j (by omega), s2 j (by omega) (by omega) (by omega)]) r6) (fun k hk => by
      rw [m18 5 (by decide), m18 6 (by decide), (s3 k (by omega)).2]
      exact ⟨(r4 k hk).2.1, fun l hl q => by rw [s6 _ (by omega)]; exact (r4 k hk).2.2 l hl q⟩)
  have eU : jalU kd lb pt h a b n (jlab kd lb h a b) 8 ++ qs = (if K < 4 then qs else jal kd lb pt (va_up th n h) (va_up ta n a) (va_up tb n b) n 0 ++ qs) := by
    by_cases k4 : K < 4
    · have : jlab kd lb h a b = 0 := by unfold jlab; rw [hK, if_pos k4]
      rw [if_pos k4, this]
      unfold jalU
      simp
    · rw [if_neg k4]
      congr 1
      unfold jalU jal
      simp only [va_up_self]
      congr 1
      apply List.filter_congr
      intro l hl
      cases hbt : jboth lb a b l with
      | false => simp
      | true => simp [jlab_both hGr hh ha hb (by rw [hK]; omega) hbt]
  rw [eU] at t3 t4
  refine ⟨iw2, aw2, ?_, fun k k1 k2 k3 => ?_, fun j hj => ?_, ⟨?_, ?_, t3⟩, fun k hk => ?_, fun m h1 h2 => ?_, t4⟩
  · rw [hJ, hJ2]
    exact t1
  · rw [t2 k k2, va_up_ne _ _ k3, va_up_ne _ _ k1]
  · rw [t5 j (by omega) (by omega), m18 j (by omega), s2 j (by omega) (by omega) (by omega)]
  · rw [t2 3 (by decide), va_up_ne _ _ (by decide), va_up_self]
  · rw [t2 22 (by decide), va_up_self]
    congr 1
    omega
  · rw [t5 4 (by decide) (by decide), t5 5 (by decide) (by decide), m18 4 (by decide), m18 5 (by decide), (s3 k (by omega)).1, (s3 k (by omega)).2]
    refine ⟨(r4 k hk).1, (r4 k hk).2.1, fun l hl q => ?_⟩
    rw [t6 _ (by omega), m18 6 (by decide), s6 _ (by omega)]
    exact (r4 k hk).2.2 l hl q
  · rw [t5 4 (by decide) (by decide), t5 5 (by decide) (by decide), m18 4 (by decide), m18 5 (by decide), t5 18 (by decide) (by decide), t5 19 (by decide) (by decide), t5 20 (by decide) (by decide), t5 21 (by decide) (by decide), q18, q19, q20, q21]
    by_cases e : m = n
    · subst e
      simp only [upr, if_true]
      rw [hK]
      refine ⟨s4, s5, fun l hl q1 q2 => ?_, trivial, trivial, trivial, trivial⟩
      have hnb : jboth lb a b l = false := by
        cases hbt : jboth lb a b l with
        | false => rfl
        | true =>
          have q3 := q2 hbt
          by_cases k4 : K < 4
          · unfold jlab at q1
            rw [hK, if_pos k4, Nat.zero_testBit] at q1
            cases q1
          · rw [if_neg k4] at q3
            omega
      rw [t7 l hl q1 hnb]
      unfold jtgt
      simp only [va_up_self, hnb, Bool.false_eq_true, if_false]
    · have hmn : m < n := by omega
      obtain ⟨u1, u2, u3, u4, u5, u6, u7⟩ := r5 m h1 hmn
      have hne : ¬ m - f = n - f := by omega
      simp only [upr, e, hne, if_false, jtgt]
      rw [(s3 m e).1, (s3 m e).2, s2 18 (by decide) (by decide) (by decide), s2 19 (by decide) (by decide) (by decide), s2 20 (by decide) (by decide) (by decide), s2 21 (by decide) (by decide) (by decide)]
      refine ⟨u1, u2, fun l hl q1 q2 => ?_, u4, u5, u6, u7⟩
      rw [t6 _ (by omega), m18 6 (by decide), s6 _ (by omega)]
      exact u3 l hl q1 q2
