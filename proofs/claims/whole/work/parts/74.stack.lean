/-- open terms, top first; dn: how many terms in each are done -/
def cS (T : TT) (dn : Nat → Nat) (ar : mA) : List Nat → Prop
  | [] => True
  | k :: os => (ar 703 os.length = nI (tPl T k) ∧ ar 704 os.length = nI (tNk T k - dn k) ∧ ar 706 os.length = hdI (tPl T) (tSc T k) ∧ (tLd T k (dn k) → ar 705 os.length = nI (tLa T k (dn k)))) ∧ cS T dn ar os
def rS (T : TT) (dn : Nat → Nat) (aw : mA) : List Nat → Prop
  | [] => True
  | k :: os => (aw 46 os.length = nI k ∧ aw 47 os.length = nI (tSc T k).length ∧ aw 49 k = nI (tNk T k - dn k - 1)) ∧ rS T dn aw os
/-- each open term's term number dn is the one that is open above it; nx above the top -/
def okS (m : Nat) (T : TT) (dn : Nat → Nat) : Nat → List Nat → Prop
  | nx, [] => nx = 0
  | nx, k :: os => (k < nx ∧ k < m ∧ dn k < tNk T k ∧ tMn T k = dn k + 1 ∧ tIn T k (dn k) = nx) ∧ okS m T dn k os
/-- how terms stand in one another -/
def tSt (g : Nat) (kd lb : Nat → Nat) (m : Nat) (T : TT) (os : List Nat) : Prop := ∀ k, k < m → (hOK g kd lb (tWd T k) (tNk T k) (tF1 T k) (tF2 T k) (tSc T k).length ∧ (tSc T k).length ≤ k ∧ tPl T k < 200) ∧ ((k ∉ os → tMn T k = tNk T k) ∧ tMn T k ≤ tNk T k) ∧ ∀ i, i < tMn T k → (k < tIn T k i ∧ tIn T k i < m ∧ tPa T (tIn T k i) = k ∧ tPo T (tIn T k i) = i) ∧ tSc T (tIn T k i) = tNs T k i (tIn T k i) ∧ (tLd T k i → tLa T k i < 8 ∧ (1 ≤ i → tLa T k (i - 1) < tLa T k i)) ∧ (tWd T k = 33 → tWd T (tIn T k i) = 21)
/-- the class holds that term; the reference does -/
def tCl (m : Nat) (T : TT) (pB : mA) : Prop := (∀ j k, j < k → k < m → tPl T j < tPl T k) ∧ ∀ k, k < m → (pB 0 (tPl T k) = nI (tWd T k) ∧ hC (tWd T k) (tF1 T k) (tF2 T k) (tPl T k) pB ∧ pB 2 (tPl T k) = nI (tMn T k)) ∧ (∀ i, i < tMn T k → pB 1 (tPl T k * 9 + i) = nI (tPl T (tIn T k i)) ∧ (tLd T k i → 0 < tPl T (tIn T k i) ∧ pB 0 (tPl T (tIn T k i) - 1) = nI (tLa T k i))) ∧ chC m (tPl T) pB (tSc T k) ∧ (tWd T k = 20 → ∃ j h, tF1 T k = nI j ∧ (tSc T k)[j]? = some h ∧ pB 4 (tPl T k) = nI (tPl T h))
def tRe (m : Nat) (T : TT) (aw : mA) : Prop := ∀ k, k < m → (aw 32 k = nI (tWd T k) ∧ aw 33 k = nI (tPl T k) ∧ aw 34 k = tF1 T k ∧ aw 35 k = tF2 T k ∧ aw 38 k = nI (tMn T k)) ∧ ∀ i, i < tMn T k → aw 36 (9 * k + i) = nI (tIn T k i) ∧ (tLd T k i → aw 37 (9 * k + i) = nI (tLa T k i))
theorem hOK9 {g : Nat} {kd lb : Nat → Nat} {w nk : Nat} {f1 f2 : Int32} {sl : Nat} (h : hOK g kd lb w nk f1 f2 sl) : nk ≤ 9 := by
  obtain ⟨⟨w1, w2⟩, a1, a2, a3, a4, a5, a6, a7, a8, a9⟩ := h
  rcases (show w = 20 ∨ w = 21 ∨ w = 22 ∨ w = 23 ∨ w = 24 ∨ w = 25 ∨ w = 26 ∨ w = 27 ∨ w = 28 ∨ w = 29 ∨ w = 30 ∨ w = 31 ∨ w = 32 ∨ w = 33 by omega) with e | e | e | e | e | e | e | e | e | e | e | e | e | e
  · have := (a1 e).1; omega
  · have := (a2 (Or.inl e)).1; omega
  · have := a3 (Or.inl e); omega
  · have := a4 (Or.inl e); omega
  · have := a3 (Or.inr (Or.inl e)); omega
  · have := a3 (Or.inr (Or.inr e)); omega
  · have := a4 (Or.inr (Or.inl e)); omega
  · have := a4 (Or.inr (Or.inr e)); omega
  · have := a5 e; omega
  · have := (a6 e).1; omega
  · have := (a7 e).1; omega
  · have := (a8 e).1; omega
  · have := (a9 e).2.1; omega
  · have := (a2 (Or.inr e)).1; omega
theorem cS_keep {T : TT} {dn dn2 : Nat → Nat} {ar ar2 : mA} : ∀ (os : List Nat), (∀ i, i < os.length → ar2 703 i = ar 703 i ∧ ar2 704 i = ar 704 i ∧ ar2 705 i = ar 705 i ∧ ar2 706 i = ar 706 i) → (∀ k, k ∈ os → dn2 k = dn k) → cS T dn ar os → cS T dn2 ar2 os
  | [], _, _, _ => trivial
  | k :: os, h, hd, ⟨h1, h2⟩ => by
    obtain ⟨a1, a2, a3, a4⟩ := h os.length (by rw [List.length_cons]; omega)
    exact ⟨by rw [a1, a2, a3, a4, hd k List.mem_cons_self]; exact h1, cS_keep os (fun i hi => h i (by rw [List.length_cons]; omega)) (fun x hx => hd x (List.mem_cons_of_mem _ hx)) h2⟩
theorem rS_keep {T : TT} {dn dn2 : Nat → Nat} {ar ar2 : mA} : ∀ (os : List Nat), (∀ i, i < os.length → ar2 46 i = ar 46 i ∧ ar2 47 i = ar 47 i) → (∀ k, k ∈ os → dn2 k = dn k ∧ ar2 49 k = ar 49 k) → rS T dn ar os → rS T dn2 ar2 os
  | [], _, _, _ => trivial
  | k :: os, h, hd, ⟨h1, h2⟩ => by
    obtain ⟨a1, a2⟩ := h os.length (by rw [List.length_cons]; omega)
    obtain ⟨b1, b2⟩ := hd k List.mem_cons_self
    exact ⟨by rw [a1, a2, b1, b2]; exact h1, rS_keep os (fun i hi => h i (by rw [List.length_cons]; omega)) (fun x hx => hd x (List.mem_cons_of_mem _ hx)) h2⟩
theorem okS_lt {m : Nat} {T : TT} {dn : Nat → Nat} : ∀ (os : List Nat) (nx : Nat), okS m T dn nx os → ∀ k, k ∈ os → k < nx ∧ k < m
  | [], _, _, k, hk => by cases hk
  | a :: os, nx, ⟨⟨h1, h2, _⟩, h7⟩, k, hk => by
    rcases List.mem_cons.mp hk with rfl | hk
    · exact ⟨h1, h2⟩
    · have := okS_lt os a h7 k hk
      omega
theorem okS_congr {m m2 : Nat} {T T2 : TT} {dn dn2 : Nat → Nat} (hm : m ≤ m2) : ∀ (os : List Nat) (nx : Nat), (∀ k, k ∈ os → dn2 k = dn k ∧ tNk T2 k = tNk T k ∧ tMn T2 k = tMn T k ∧ tIn T2 k (dn k) = tIn T k (dn k)) → okS m T dn nx os → okS m2 T2 dn2 nx os
  | [], _, _, h => h
  | a :: os, nx, hh, ⟨⟨h1, h2, h3, h4, h5⟩, h7⟩ => by
    obtain ⟨a1, a2, a3, a4⟩ := hh a List.mem_cons_self
    exact ⟨⟨h1, by omega, by rw [a1, a2]; exact h3, by rw [a1, a3]; exact h4, by rw [a1, a4]; exact h5⟩, okS_congr hm os a (fun k hk => hh k (List.mem_cons_of_mem _ hk)) h7⟩
/-- a term has ended: so may those around it -/
theorem settleT {m : Nat} {T : TT} {dn : Nat → Nat} {la : mL} {pA pB : mA} {K : Int32 → Int32 → Int32 → mI → mA → Option (Int32 × mI × mA)} {l1 l2 : Int32} {aw : mA} (hm : m ≤ 200) (hnk : ∀ k, k < m → tNk T k ≤ 9) : ∀ (os : List Nat) (nx : Nat) (iv : mI) (ar : mA) (iw : mI) (n1 n2 : Nat), os.length < n1 → os.length < n2 → os.length ≤ 200 → okS m T dn nx os → cS T dn ar os → rS T dn aw os → iv 707 = nI os.length → iw 48 = nI os.length →
    ∃ (iv2 : mI) (ar2 : mA) (iw2 : mI) (pre os2 : List Nat), mX7_settle_L7 n1 (nI os.length - 1) iv ar la pA pB = some (0, iv2, ar2, la, pA, pB) ∧ mX12_readTerms_L139 K n2 l1 l2 iw aw = mX12_readTerms_J178 K l1 l2 iw2 aw ∧ os = pre ++ os2 ∧ (∀ k, k ∈ pre → dn k + 1 = tNk T k) ∧ iv2 707 = nI os2.length ∧ iw2 48 = nI os2.length ∧ (∀ k, k ≠ 707 → iv2 k = iv k) ∧ (∀ k, k ≠ 48 → iw2 k = iw k) ∧ (∀ k, k ≠ 704 → ar2 k = ar k) ∧ (∀ i, i + 1 < os2.length → ar2 704 i = ar 704 i) ∧ (os2 = [] ∨ ∃ k os3, os2 = k :: os3 ∧ dn k + 1 < tNk T k ∧ ar2 704 os3.length = nI (tNk T k - (dn k + 1)))
  | [], nx, iv, ar, iw, n1, n2, hn1, hn2, hl, hok, hc, hr, h7, h4 => by
    obtain ⟨n1, rfl⟩ : ∃ k, n1 = k + 1 := ⟨n1 - 1, by omega⟩
    obtain ⟨n2, rfl⟩ : ∃ k, n2 = k + 1 := ⟨n2 - 1, by omega⟩
    refine ⟨iv, ar, iw, [], [], ?_, ?_, rfl, fun k hk => (by cases hk), h7, h4, fun _ _ => rfl, fun _ _ => rfl, fun _ _ => rfl, fun _ _ => rfl, Or.inl rfl⟩
    · rw [mX7_settle_L7]
      rw [if_pos (show nI ([] : List Nat).length - 1 < 0 by decide)]
    · rw [mX12_readTerms_L139]
      rw [h4, if_pos (show nI ([] : List Nat).length ≤ 0 by decide)]
  | k :: os, nx, iv, ar, iw, n1, n2, hn1, hn2, hl, ⟨⟨k1, k2, k3, k4, k5⟩, hok⟩, ⟨⟨c1, c2, c3, c4⟩, hc⟩, ⟨⟨r1, r2, r3⟩, hr⟩, h7, h4 => by
    rw [List.length_cons] at *
    have hk9 := hnk k k2
    obtain ⟨n1, rfl⟩ : ∃ k, n1 = k + 1 := ⟨n1 - 1, by omega⟩
    obtain ⟨n2, rfl⟩ : ∃ k, n2 = k + 1 := ⟨n2 - 1, by omega⟩
    have eC : mX7_settle_L7 (n1 + 1) (nI (os.length + 1) - 1) iv ar la pA pB = if dn k + 1 = tNk T k then mX7_settle_L7 n1 (nI os.length - 1) (va_up iv 707 (nI os.length)) (au ar 704 os.length (nI (tNk T k - (dn k + 1)))) la pA pB else some (0, iv, au ar 704 os.length (nI (tNk T k - (dn k + 1))), la, pA, pB) := by
      conv => lhs; rw [mX7_settle_L7]
      rw [nsub1, if_neg (nI_pos (by omega)), if_neg (by first | exact nI_in (by omega) (by omega) | exact nI_inn (by omega) (by omega)), if_neg (by first | exact nI_in (by omega) (by omega) | exact nI_inn (by omega) (by omega)), if_neg (by first | exact nI_in (by omega) (by omega) | exact nI_inn (by omega) (by omega)), ncl (by omega), c2, au_self, show nI (tNk T k - dn k) - 1 = nI (tNk T k - (dn k + 1)) by rw [show tNk T k - dn k = (tNk T k - (dn k + 1)) + 1 by omega, nsub1], pm1]
      by_cases e : dn k + 1 = tNk T k
      · rw [if_pos e, if_pos (show nI (tNk T k - (dn k + 1)) ≤ (0 : Int32) by rw [e, Nat.sub_self]; decide)]
      · rw [if_neg e, if_neg (show ¬ nI (tNk T k - (dn k + 1)) ≤ (0 : Int32) from nI_ge (show 0 < tNk T k - (dn k + 1) by omega) (by omega))]
    have eR : mX12_readTerms_L139 K (n2 + 1) l1 l2 iw aw = if dn k + 1 = tNk T k then mX12_readTerms_L139 K n2 l1 l2 (va_up iw 48 (nI os.length)) aw else mX12_readTerms_J178 K l1 l2 iw aw := by
      conv => lhs; rw [mX12_readTerms_L139]
      rw [h4, if_neg (show ¬ nI (os.length + 1) ≤ (0 : Int32) from nI_ge (show 0 < os.length + 1 by omega) (by omega)), nsub1, if_neg (by first | exact nI_in (by omega) (by omega) | exact nI_inn (by omega) (by omega)), ncl (by omega), r1, if_neg (by first | exact nI_in (by omega) (by omega) | exact nI_inn (by omega) (by omega)), ncl (by omega), r3]
      by_cases e : dn k + 1 = tNk T k
      · rw [if_pos e, if_pos (show nI (tNk T k - dn k - 1) = 0 by rw [show tNk T k - dn k - 1 = 0 by omega]; rfl)]
      · rw [if_neg e, if_neg (show ¬ nI (tNk T k - dn k - 1) = 0 from fun h => by have := (nI_eq (b := 0) (by omega) (by decide)).mp h; omega)]
    rw [eC, eR]
    by_cases e : dn k + 1 = tNk T k
    · rw [if_pos e, if_pos e]
      have hc2 : cS T dn (au ar 704 os.length (nI (tNk T k - (dn k + 1)))) os := cS_keep (ar := ar) (dn := dn) os (fun i hi => ⟨rfl, au_ni _ (by omega), rfl, rfl⟩) (fun _ _ => rfl) hc
      obtain ⟨iv2, ar2, iw2, pre, os2, a1, a2, a3, a4, a5, a6, a7, a8, a9, a10, a11⟩ := settleT hm hnk os k (va_up iv 707 (nI os.length)) (au ar 704 os.length (nI (tNk T k - (dn k + 1)))) (va_up iw 48 (nI os.length)) n1 n2 (by omega) (by omega) (by omega) hok hc2 hr rfl rfl
      refine ⟨iv2, ar2, iw2, k :: pre, os2, a1, a2, by rw [a3]; rfl, fun x hx => ?_, a5, a6, fun x hx => by rw [a7 x hx, va_up_ne _ _ hx], fun x hx => by rw [a8 x hx, va_up_ne _ _ hx], fun x hx => by rw [a9 x hx, au_ne _ hx], fun i hi => ?_, a11⟩
      · rcases List.mem_cons.mp hx with rfl | hx
        · exact e
        · exact a4 x hx
      · have hle : os2.length ≤ os.length := by rw [a3, List.length_append]; omega
        rw [a10 i hi, au_ni _ (by omega)]
    · rw [if_neg e, if_neg e]
      exact ⟨iv, _, iw, [], k :: os, rfl, rfl, rfl, fun x hx => (by cases hx), h7, h4, fun _ _ => rfl, fun _ _ => rfl, fun x hx => au_ne _ hx, fun i hi => au_ni _ (by rw [List.length_cons] at hi; omega), Or.inr ⟨k, os, rfl, by omega, au_self _ _ _ _⟩⟩
