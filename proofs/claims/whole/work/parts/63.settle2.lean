/-- what settling comes to: all is settled, or a node wants its next label -/
def sOut (f0 g : Nat) (kd lr : Nat → Nat) (N : Nat) (iv : mI) (ar : mA) (la : mL) (pA pB : mA) (iw : mI) (aw : mA) (C : Option (Int32 × mI × mA × mL × mA × mA)) (R : Option (Int32 × mI × mA)) : Prop :=
  (∃ (lb2 : Nat → Nat) (pt2 : Nat → Nat → Nat) (iv2 : mI) (ar2 : mA) (iw2 : mI) (aw2 : mA), C = some (0, iv2, ar2, la, pA, pB) ∧ R = some (nI f0, iw2, aw2) ∧ pg f0 g kd lb2 lr pt2 [] iv2 ar2 iw2 aw2 ∧ iv2 906 = nI 0 ∧ iw2 29 = nI 0 ∧ fS f0 iv ar iw aw iv2 ar2 iw2 aw2) ∨
  (∃ (y lf l : Nat) (fs2 : List (Nat × Nat × Nat × Nat)) (lb2 : Nat → Nat) (pt2 : Nat → Nat → Nat) (iv2 : mI) (ar2 : mA) (iw2 : mI) (aw2 : mA) (n3 : Nat) (x2 : Int32), C = some (0, iv2, ar2, la, pA, pB) ∧ R = ob (mX12_takeLabel iw2 aw2) (fun _ iw3 aw3 => mX12_settle_L4 (n3 + 1) x2 0 iw3 aw3) ∧ lst f0 g kd lb2 lr y lf l fs2 ∧ pg f0 g kd lb2 lr pt2 ((0, y, lf, l) :: fs2) iv2 ar2 iw2 aw2 ∧ stC ar2 ((0, y, lf, l) :: fs2) ∧ stR g m1 aw2 ((0, y, lf, l) :: fs2) ∧ iv2 906 = nI (fs2.length + 1) ∧ iw2 29 = nI (fs2.length + 1) ∧ fs2.length + 1 ≤ N ∧ fS f0 iv ar iw aw iv2 ar2 iw2 aw2)
theorem sOut_t {f0 g : Nat} {kd lr : Nat → Nat} {N N2 : Nat} {iv iv1 : mI} {ar ar1 : mA} {la : mL} {pA pB : mA} {iw iw1 : mI} {aw aw1 : mA} {C : Option (Int32 × mI × mA × mL × mA × mA)} {R : Option (Int32 × mI × mA)} (h : fS f0 iv ar iw aw iv1 ar1 iw1 aw1) (hN : N ≤ N2) (h2 : sOut f0 g kd lr N iv1 ar1 la pA pB iw1 aw1 C R) : sOut f0 g kd lr N2 iv ar la pA pB iw aw C R := by
  rcases h2 with ⟨lb2, pt2, iv2, ar2, iw2, aw2, a1, a2, a3, a4, a5, a6⟩ | ⟨y, lf, l, fs2, lb2, pt2, iv2, ar2, iw2, aw2, n3, x2, a1, a2, a3, a4, a5, a6, a7, a8, a9, a10⟩
  · exact Or.inl ⟨lb2, pt2, iv2, ar2, iw2, aw2, a1, a2, a3, a4, a5, fS_t h a6⟩
  · exact Or.inr ⟨y, lf, l, fs2, lb2, pt2, iv2, ar2, iw2, aw2, n3, x2, a1, a2, a3, a4, a5, a6, a7, a8, by omega, fS_t h a10⟩
theorem pow_or {m q : Nat} (h : m < 2 ^ q) : m ||| 2 ^ q < 2 ^ (q + 1) := Nat.or_lt_two_pow (Nat.lt_of_lt_of_le h (Nat.pow_le_pow_right (by decide) (Nat.le_succ q))) (Nat.pow_lt_pow_right (by decide) (Nat.lt_succ_self q))
theorem settle_both {f0 g : Nat} {kd lr : Nat → Nat} {w : Int32} (hg : g ≤ 400) {la : mL} {pA pB : mA} : ∀ (fs : List (Nat × Nat × Nat × Nat)) (t : Prop) (x : Nat) (lb : Nat → Nat) (pt : Nat → Nat → Nat) (iv : mI) (ar : mA) (iw : mI) (aw : mA) (n1 n2 : Nat), fs.length < n1 → fs.length + 1 < n2 → fs.length ≤ 200 → okF f0 g kd lb lr t fs → pg f0 g kd lb lr pt fs iv ar iw aw → stC ar fs → stR g w aw fs → iv 906 = nI fs.length → iw 29 = nI fs.length → iw 24 = 0 → x < g → (noN fs → x = f0) →
    sOut f0 g kd lr fs.length iv ar la pA pB iw aw (mX9_settle_L9 n1 (nI x) (nI fs.length - 1) iv ar la pA pB) (mX12_settle_L4 n2 (nI x) 1 iw aw)
  | [], t, x, lb, pt, iv, ar, iw, aw, n1, n2, hn1, hn2, hfl, hok, hp, hc, hr, h6, h9, h4, hx, hx0 => by
    obtain ⟨n1, rfl⟩ : ∃ k, n1 = k + 1 := ⟨n1 - 1, by omega⟩
    obtain ⟨n2, rfl⟩ : ∃ k, n2 = k + 1 := ⟨n2 - 1, by omega⟩
    have e : x = f0 := hx0 (fun f hf => (by cases hf))
    subst e
    refine Or.inl ⟨lb, pt, iv, ar, iw, aw, ?_, ?_, hp, h6, h9, fun _ _ => rfl, fun _ _ => rfl, fT_r _ _ _, fU_r _ _ _⟩
    · unfold mX9_settle_L9
      rw [if_pos (show nI ([] : List (Nat × Nat × Nat × Nat)).length - 1 < 0 by decide)]
    · unfold mX12_settle_L4
      rw [if_neg (show ¬ (1 : Int32) = 0 by decide), h9, if_pos (show nI ([] : List (Nat × Nat × Nat × Nat)).length ≤ 0 by decide)]
  | (v + 1, y, lf, l) :: fs, t, x, lb, pt, iv, ar, iw, aw, n1, n2, hn1, hn2, hfl, hok, hp, hc, hr, h6, h9, h4, hx, hx0 => by
    rw [List.length_cons] at *
    obtain ⟨n1, rfl⟩ : ∃ k, n1 = k + 1 := ⟨n1 - 1, by omega⟩
    obtain ⟨n2, rfl⟩ : ∃ k, n2 = k + 1 := ⟨n2 - 1, by omega⟩
    obtain ⟨⟨k1, k2, k3, k4, k5⟩, hok⟩ := hok
    obtain ⟨⟨c1, c2, c3, c4⟩, hc⟩ := hc
    obtain ⟨⟨r1, r2, r3⟩, hr⟩ := hr
    rw [c_set8 (show fs.length < 200 by omega) k1 c2 (by rw [c3, k2]), r_set8 (show fs.length < 200 by omega) k1 h4 h9 r2]
    obtain ⟨p1, p2, p3, p4⟩ := hp
    refine sOut_t ?_ (Nat.le_succ _) (settle_both hg fs t x lb pt (va_up iv 906 (nI fs.length)) (au ar 904 fs.length (nI 0)) (va_up iw 29 (nI fs.length)) aw n1 n2 (by omega) (by omega) (by omega) hok ?_ ?_ hr rfl rfl h4 hx (fun hN => hx0 (fun f hf => ?_)))
    · refine ⟨fun k hk => va_up_ne _ _ hk, fun k hk => va_up_ne _ _ hk, ⟨fun k a b c d e f => va_up_ne _ _ f, fun k a b c d e f g => au_ne _ f, fun k hk => by rw [au_ne _ (by decide), au_ne _ (by decide)]; exact ⟨rfl, rfl⟩, fun i hi => by rw [au_ne _ (by decide)]⟩, ⟨fun k a b c d e => va_up_ne _ _ e, fun _ _ _ _ _ _ _ _ => rfl, fun _ _ => ⟨rfl, rfl⟩, fun _ _ => rfl⟩⟩
    · refine ⟨p1, p2, p3, fun k hk => ?_⟩
      obtain ⟨q1, q2, q3⟩ := p4 k hk
      rw [au_ne _ (by decide), au_ne _ (by decide), au_ne _ (by decide)]
      refine ⟨q1, q2, fun w => q3 (fun f hf h0 => ?_)⟩
      rcases List.mem_cons.mp hf with rfl | hf
      · exact absurd h0 (Nat.succ_ne_zero v)
      · exact w f hf h0
    · refine stC_keep2 fs (fun i hi => ?_) hc
      refine ⟨?_, ?_, ?_, ?_⟩ <;> first | rfl | exact au_ni _ (by omega) | (simp [aur, show ¬ i = fs.length by omega]; done)
    · rcases List.mem_cons.mp hf with rfl | hf
      · exact Nat.succ_ne_zero v
      · exact hN f hf
  | (0, y, lf, l) :: fs, t, x, lb, pt, iv, ar, iw, aw, n1, n2, hn1, hn2, hfl, hok, hp, hc, hr, h6, h9, h4, hx, hx0 => by
    rw [List.length_cons] at *
    obtain ⟨n1, rfl⟩ : ∃ k, n1 = k + 1 := ⟨n1 - 1, by omega⟩
    obtain ⟨n2, rfl⟩ : ∃ k, n2 = k + 1 := ⟨n2 - 1, by omega⟩
    obtain ⟨⟨k1, k2, k3, k4, ⟨kl, kl8, kp⟩, k5, k6⟩, hok⟩ := hok
    obtain ⟨⟨c1, c2, c3, c4⟩, hc⟩ := hc
    obtain ⟨⟨r1, r2, r3⟩, hr⟩ := hr
    rw [if_pos k1] at r1
    obtain ⟨r4, r5⟩ := r3 rfl
    have hpy := (hp.2.2.2 y k1).1
    have hfl2 : fs.length < 200 := by omega
    rw [c_setN hfl2 hp.1 hg k1 kl kl8 k3 k4 c2 c3 c1 c4 hpy.2.2.2.2.1 hpy.2.1, r_setN hfl2 h4 h9 hg k1 kl kl8 k3 k4 r2 r4 r1 r5]
    have hS : ∀ (w1 w2 : Int32), fS f0 iv ar iw aw (va_up iv 906 w1) (au (au (au ar 301 y (nI (lb y ||| 2 ^ (l - 1)))) 302 (y * 8 + (l - 1)) (nI x)) 904 fs.length (nI (lf - 1))) (va_up iw 29 w2) (au (au aw 6 (8 * y + (l - 1)) (nI x)) 27 fs.length (nI (lf - 1))) := by
      intro w1 w2
      refine ⟨fun k hk => va_up_ne _ _ hk, fun k hk => va_up_ne _ _ hk, ⟨fun k a b c d e f => va_up_ne _ _ f, fun k a b c d e f g => ?_, fun k hk => ?_, fun i hi => ?_⟩, ⟨fun k a b c d e => va_up_ne _ _ e, fun k a b c d e f g => ?_, fun k hk => ?_, fun i hi => ?_⟩⟩
      · rw [au_ne _ f, au_ne _ c, au_ne _ b]
      · simp only [aur, reduceIte, show ¬ k = y by omega, show ¬ (300 = 904) by decide, show ¬ (300 = 302) by decide, show ¬ (300 = 301) by decide, show ¬ (301 = 904) by decide, show ¬ (301 = 302) by decide, if_false, if_true]
        exact ⟨trivial, trivial⟩
      · rw [au_ne _ (by decide), au_ni _ (by omega), au_ne _ (by decide)]
      · rw [au_ne _ f, au_ne _ c]
      · rw [au_ne _ (by decide), au_ne _ (by decide), au_ne _ (by decide), au_ne _ (by decide)]
        exact ⟨rfl, rfl⟩
      · rw [au_ne _ (by decide), au_ni _ (by omega)]
    have hpg : ∀ (fs2 : List (Nat × Nat × Nat × Nat)) (w1 : mI) (w2 : mI), w1 303 = iv 303 → w2 3 = iw 3 → (∀ k, k ≠ y → (∀ f, f ∈ fs2 → f.1 = 0 → f.2.1 ≠ k) → (∀ f, f ∈ fs → f.1 = 0 → f.2.1 ≠ k)) → ((∀ f, f ∈ fs2 → f.1 = 0 → f.2.1 ≠ y) → lr y = lb y ||| 2 ^ (l - 1) ∧ (kd y < 4 → lb y ||| 2 ^ (l - 1) = 0) ∧ (kd y = 4 → lb y ||| 2 ^ (l - 1) = 3)) → pg f0 g kd (va_up lb y (lb y ||| 2 ^ (l - 1))) lr (fun k q => if k = y ∧ q = l - 1 then x else pt k q) fs2 w1 (au (au (au ar 301 y (nI (lb y ||| 2 ^ (l - 1)))) 302 (y * 8 + (l - 1)) (nI x)) 904 fs.length (nI (lf - 1))) w2 (au (au aw 6 (8 * y + (l - 1)) (nI x)) 27 fs.length (nI (lf - 1))) := by
      intro fs2 w1 w2 i1 i2 i3 i4
      refine pg_set hp k1 (show l - 1 < 8 by omega) hx i1 i2 ?_ (fun k => ?_) (fun k => ?_) ?_ ?_ (fun k => ?_) (fun k hk hh f hf h0 => ?_) i4
      · rw [au_ne _ (by decide), au_ne _ (by decide), au_ne _ (by decide)]
      · rw [au_ne _ (by decide), au_ne _ (by decide), aur, if_pos rfl]
      · rw [au_ne _ (by decide), aur, if_pos rfl, au_ne _ (by decide)]
      · rw [au_ne _ (by decide), au_ne _ (by decide)]
      · rw [au_ne _ (by decide), au_ne _ (by decide)]
      · rw [au_ne _ (by decide), aur, if_pos rfl]
      · rcases List.mem_cons.mp hf with rfl | hf
        · exact fun e => hk e.symm
        · exact i3 k hk hh f hf h0
    have hok2 : okF f0 g kd (va_up lb y (lb y ||| 2 ^ (l - 1))) lr False fs := by
      refine okF_congr fs False (fun f hf h0 => ⟨rfl, va_up_ne _ _ ?_, rfl⟩) hok
      have := k5 f hf h0
      omega
    have hc2 : stC (au (au (au ar 301 y (nI (lb y ||| 2 ^ (l - 1)))) 302 (y * 8 + (l - 1)) (nI x)) 904 fs.length (nI (lf - 1))) fs := by
      refine stC_keep2 fs (fun i hi => ?_) hc
      refine ⟨?_, ?_, ?_, ?_⟩ <;> first | rfl | exact au_ni _ (by omega) | (simp [aur, show ¬ i = fs.length by omega]; done)
    have hr2 : stR g w (au (au aw 6 (8 * y + (l - 1)) (nI x)) 27 fs.length (nI (lf - 1))) fs := by
      refine stR_keep2 fs (fun i hi => ?_) hr
      refine ⟨?_, ?_, ?_, ?_⟩ <;> first | rfl | exact au_ni _ (by omega) | (simp [aur, show ¬ i = fs.length by omega]; done)
    by_cases e : lf = 1
    · rw [if_pos e, if_pos e]
      have hcl : lr y = lb y ||| 2 ^ (l - 1) ∧ (kd y < 4 → lb y ||| 2 ^ (l - 1) = 0) ∧ (kd y = 4 → lb y ||| 2 ^ (l - 1) = 3) := by
        rcases kp with ⟨q1, q2, q3, q4⟩ | ⟨q1, q2, q3⟩
        · have e2 : l = 2 := by omega
          subst e2
          rw [q3, q2]
          exact ⟨rfl, fun h => by omega, fun _ => rfl⟩
        · exact ⟨q2, fun h => by omega, fun h => by omega⟩
      exact sOut_t (hS _ _) (Nat.le_succ _) (settle_both hg fs False y _ _ _ _ _ _ n1 n2 (by omega) (by omega) (by omega) hok2 (hpg fs _ _ rfl rfl (fun k _ h => h) (fun _ => hcl)) hc2 hr2 rfl rfl h4 k1 k6)
    · rw [if_neg e, if_neg e]
      obtain ⟨n3, rfl⟩ : ∃ k, n2 = k + 1 := ⟨n2 - 1, by omega⟩
      refine Or.inr ⟨y, lf - 1, l, fs, va_up lb y (lb y ||| 2 ^ (l - 1)), (fun k q => if k = y ∧ q = l - 1 then x else pt k q), iv, _, iw, _, n3, nI x, rfl, rfl, ⟨⟨k1, k2, by omega, by omega, kl8, ?_, k5, k6⟩, hok2⟩, hpg _ iv iw rfl rfl (fun k hk h f hf => h f (List.mem_cons_of_mem _ hf)) (fun h => absurd rfl (h _ List.mem_cons_self rfl)), ⟨⟨?_, ?_, ?_, ?_⟩, hc2⟩, ⟨⟨?_, ?_, fun _ => ⟨?_, ?_⟩⟩, stR_w fs hok2 hr2⟩, h6, h9, Nat.le_refl _, ?_⟩
      · rw [va_up_self]
        rcases kp with ⟨q1, q2, q3, q4⟩ | ⟨q1, q2, q3⟩
        · have e2 : l = 1 := by omega
          subst e2
          exact Or.inl ⟨q1, q2, by rw [q3]; rfl, by omega⟩
        · refine Or.inr ⟨q1, q2, ?_⟩
          have := pow_or q3
          rw [show l - 1 + 1 = l by omega] at this
          exact this
      · simp only [aur, reduceIte]
        exact c1
      · simp only [aur, reduceIte]
        exact c2
      · exact au_self _ _ _ _
      · simp only [aur, reduceIte]
        exact c4
      · rw [if_pos k1]
        simp only [aur, reduceIte]
        exact r1
      · simp only [aur, reduceIte]
        exact r2
      · exact au_self _ _ _ _
      · simp only [aur, reduceIte]
        exact r5
      · have := hS (iv 906) (iw 29)
        rwa [show va_up iv 906 (iv 906) = iv from funext fun k => by rw [upr]; split <;> simp_all, show va_up iw 29 (iw 29) = iw from funext fun k => by rw [upr]; split <;> simp_all] at this
