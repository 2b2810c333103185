theorem stkC_keep {ar ar2 : mA} {P P2 : Nat → Nat} : ∀ (os : List Nat) (L : Nat), os.length ≤ L → (∀ i, i < L → ar2 2 i = ar 2 i ∧ ar2 3 i = ar 3 i) → (∀ o, o ∈ os → P2 o = P o) → stkC ar P os → stkC ar2 P2 os
  | [], _, _, _, _, _ => trivial
  | o :: os, L, hL, h, hP, ⟨h1, h2, h3⟩ => by
    have hL : os.length + 1 ≤ L := hL
    obtain ⟨a1, a2⟩ := h os.length (by omega)
    exact ⟨by rw [a1]; exact h1, by rw [a2, hP o List.mem_cons_self]; exact h2, stkC_keep os L (by omega) h (fun x hx => hP x (List.mem_cons_of_mem _ hx)) h3⟩
/-- a node more, of the class: for h, a, b, of that kind -/
theorem c_make {f n : Nat} {kd lb : Nat → Nat} {pt : Nat → Nat → Nat} {th ta tb P Q : Nat → Nat} {rs : Nat → Nat → Nat} {os : List Nat} {iv : mI} {ar : mA} {la : mL} {pA pB : mA} (hG : jG f n kd lb pt th ta tb P rs os) (hC : jC f n kd lb pt th ta tb P Q rs os iv ar) (hn : n < 200) {h a b : Nat} (hh : h < 2) (hk6 : jkind kd h a b ≤ 6) (hos : os.length < 200) :
    ∃ (iv2 : mI) (ar2 : mA), mX0_makeFor (nI (jk h a b)) (nI (jkind kd h a b)) iv ar la pA pB = some (nI n, iv2, ar2, la, pA, pB) ∧ (∀ k, k ≠ 303 → k ≠ 4 → iv2 k = iv k) ∧ (∀ k, k ≠ 300 → k ≠ 301 → k ≠ 1 → k ≠ 2 → k ≠ 3 → ar2 k = ar k) ∧
      jC f (n + 1) kd lb pt (va_up th n h) (va_up ta n a) (va_up tb n b) (va_up P n (if jkind kd h a b < 4 then 8 else 0)) (va_up Q n (if jkind kd h a b < 4 then 8 else 0)) rs (if jkind kd h a b < 4 then os else n :: os) iv2 ar2 := by
  obtain ⟨⟨g1, g2⟩, g3, g4, g5, g6, g7⟩ := hG
  obtain ⟨⟨c1, c2, c3⟩, c4, c5, c6⟩ := hC
  have hdraft : mX3_draft (nI (jkind kd h a b)) iv ar la pA pB = some (nI n, va_up iv 303 (nI (n + 1)), au (au ar 300 n (nI (jkind kd h a b))) 301 n (nI 0), la, pA, pB) := by
    unfold mX3_draft
    rw [c1, if_pos (show nI n < (400 : Int32) from nI_lt (show n < 400 by omega) (by decide)), if_neg (nI_in (by omega) (by omega)), if_neg (nI_in (by omega) (by omega)), ncl (by omega), show (1 : Int32) = nI 1 from rfl, nadd]
    simp only [upr, if_true]
    rw [nsub (by omega), Nat.add_sub_cancel]
    rfl
  have hmk : mX0_makeFor (nI (jk h a b)) (nI (jkind kd h a b)) iv ar la pA pB = mX0_makeFor_J26 (nI (jk h a b)) (nI (jkind kd h a b)) (nI n) (va_up iv 303 (nI (n + 1))) (au (au ar 300 n (nI (jkind kd h a b))) 301 n (nI 0)) la pA pB := by
    unfold mX0_makeFor mX3_size
    rw [obce, c1, if_neg (show ¬ (200 : Int32) ≤ nI n from nI_ge hn (by decide)), hdraft, obce]
  have e4 : va_up iv 303 (nI (n + 1)) 4 = nI os.length := by rw [va_up_ne _ _ (by decide)]; exact c3
  have e5 : va_up iv 303 (nI (n + 1)) 5 = nI f := by rw [va_up_ne _ _ (by decide)]; exact c2
  have hmn : ∀ m, f ≤ m → m < n → ¬ m = n := fun m _ h2 => by omega
  -- the made nodes' part of the picture, for any memory that agrees
  have pic : ∀ (iv2 : mI) (ar2 : mA) (P2 Q2 : Nat → Nat) (os2 : List Nat), iv2 303 = nI (n + 1) → iv2 5 = nI f → iv2 4 = nI os2.length → (∀ k, k ≠ n → ar2 300 k = ar 300 k ∧ ar2 301 k = ar 301 k ∧ ar2 1 k = ar 1 k) → ar2 300 n = nI (jkind kd h a b) → ar2 301 n = nI 0 → ar2 1 n = nI (jk h a b) → ar2 302 = ar 302 → (∀ m, m ≠ n → P2 m = P m) → (jkind kd h a b < 4 ∨ P2 n = 0) → stkC ar2 Q2 os2 → jC f (n + 1) kd lb pt (va_up th n h) (va_up ta n a) (va_up tb n b) P2 Q2 rs os2 iv2 ar2 := by
    intro iv2 ar2 P2 Q2 os2 i1 i2 i3 i4 i5 i6 i7 i8 i9 i10 i11
    refine ⟨⟨i1, i2, i3⟩, fun k hk => ?_, fun m h1 h2 => ?_, i11⟩
    · obtain ⟨a1, a2, -⟩ := i4 k (by omega)
      rw [a1, a2, i8]
      exact c4 k hk
    · by_cases e : m = n
      · subst e
        simp only [upr, if_true]
        refine ⟨i5, ?_, fun l hl hlP hb => ?_, i7⟩
        · rw [i6]
          rcases i10 with q | q
          · unfold jlab
            rw [if_pos q, Nat.zero_mod]
          · rw [q, Nat.pow_zero, Nat.mod_one]
        · rcases i10 with q | q
          · unfold jlab at hb
            rw [if_pos q, Nat.zero_testBit] at hb
            cases hb
          · omega
      · obtain ⟨b1, b2, b3, b4⟩ := c5 m h1 (by omega)
        obtain ⟨a1, a2, a3⟩ := i4 m e
        simp only [upr, e, if_false, jtgt]
        rw [a1, a2, a3, i8, i9 m e]
        exact ⟨b1, b2, b3, b4⟩
  by_cases hk : jkind kd h a b < 4
  · refine ⟨va_up iv 303 (nI (n + 1)), au (au (au ar 300 n (nI (jkind kd h a b))) 301 n (nI 0)) 1 n (nI (jk h a b)), ?_, fun k k1 k2 => va_up_ne _ _ k1, fun k k1 k2 k3 k4 k5 => ?_, ?_⟩
    · rw [hmk]
      unfold mX0_makeFor_J26
      rw [if_neg (nI_pos (by omega)), if_pos (show nI n < (200 : Int32) from nI_lt hn (by decide)), if_neg (nI_in (by omega) (by omega)), ncl (by omega), if_pos (show nI (jkind kd h a b) < (4 : Int32) from nI_lt hk (by decide))]
    · unfold au
      rw [va_up_ne _ _ k3, va_up_ne _ _ k2, va_up_ne _ _ k1]
    · simp only [if_pos hk]
      refine pic _ _ _ _ _ rfl e5 e4 (fun k hkn => by simp [aur, hkn]) (by simp [aur]) (by simp [aur]) (by simp [aur]) (by funext p; simp [aur]) (fun m hm => va_up_ne _ _ hm) (Or.inl hk) ?_
      refine stkC_keep os os.length (Nat.le_refl _) (fun i hi => by simp [aur]) (fun o ho => ?_) c6
      have := g5 o ho
      exact va_up_ne _ _ (by omega)
  · refine ⟨va_up (va_up iv 303 (nI (n + 1))) 4 (nI (os.length + 1)), au (au (au (au (au ar 300 n (nI (jkind kd h a b))) 301 n (nI 0)) 1 n (nI (jk h a b))) 2 os.length (nI n)) 3 os.length (nI 0), ?_, fun k k1 k2 => ?_, fun k k1 k2 k3 k4 k5 => ?_, ?_⟩
    · rw [hmk]
      unfold mX0_makeFor_J26
      rw [if_neg (nI_pos (by omega)), if_pos (show nI n < (200 : Int32) from nI_lt hn (by decide)), if_neg (nI_in (by omega) (by omega)), ncl (by omega), if_neg (show ¬ nI (jkind kd h a b) < (4 : Int32) from nI_nlt (show 4 ≤ jkind kd h a b by omega) (by omega)), e4, if_neg (show ¬ (200 : Int32) ≤ nI os.length from nI_ge hos (by decide)), if_neg (nI_in (by omega) (by omega)), if_neg (nI_in (by omega) (by omega)), ncl (by omega), show (1 : Int32) = nI 1 from rfl, nadd]
      rfl
    · rw [va_up_ne _ _ k2, va_up_ne _ _ k1]
    · unfold au
      rw [va_up_ne _ _ k5, va_up_ne _ _ k4, va_up_ne _ _ k3, va_up_ne _ _ k2, va_up_ne _ _ k1]
    · simp only [if_neg hk]
      refine pic _ _ _ _ _ rfl e5 rfl (fun k hkn => by simp [aur, hkn]) (by simp [aur]) (by simp [aur]) (by simp [aur]) (by funext p; simp [aur]) (fun m hm => va_up_ne _ _ hm) (Or.inr (va_up_self _ _ _)) ?_
      refine ⟨by simp [aur], by simp [aur, va_up_self], ?_⟩
      refine stkC_keep os os.length (Nat.le_refl _) (fun i hi => ?_) (fun o ho => ?_) c6
      · have hne : ¬ i = os.length := by omega
        simp [aur, hne]
      · have := g5 o ho
        exact va_up_ne _ _ (by omega)
