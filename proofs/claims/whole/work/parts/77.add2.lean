theorem tAdd_cl {g : Nat} {kd lb : Nat → Nat} {m w p n nk : Nat} {f1 f2 : Int32} {T : TT} {dn : Nat → Nat} {k : Nat} {os : List Nat} {pB pB2 pB3 : mA} (h : tSt g kd lb m T (k :: os)) (hcl : tCl m T pB) (hk : k < m) (hd : dn k < tNk T k) (hmn : tMn T k = dn k) (hb3 : ∀ x, x < m → tPl T x < p) (hE : entB T p m k (dn k) pB pB2) (hw : pB 0 p = nI w) (hC0 : hC w f1 f2 p pB) (hl : tLd T k (dn k) → 0 < p ∧ pB 0 (p - 1) = nI (tLa T k (dn k)))
    (h3 : (pB3 = pB2 ∧ w ≠ 20) ∨ (w = 20 ∧ ∃ j h, f1 = nI j ∧ (tNs T k (dn k) m)[j]? = some h ∧ pB3 = au pB2 4 p (nI (va_up (tPl T) m p h)))) : tCl (m + 1) (tAdd T m w p f1 f2 nk (tNs T k (dn k) m) k (dn k)) pB3 := by
  obtain ⟨hE0, hE4, hE2, hE1, hE3⟩ := hE
  have k3 : ∀ r, r ≠ 4 → pB3 r = pB2 r := fun r hr => by
    rcases h3 with ⟨h, _⟩ | ⟨_, j, hh, _, _, h⟩
    · rw [h]
    · rw [h, au_ne _ hr]
  have k4 : ∀ x, x ≠ p → pB3 4 x = pB 4 x := fun x hx => by
    rcases h3 with ⟨h, _⟩ | ⟨_, j, hh, _, _, h⟩
    · rw [h, hE4]
    · rw [h, au_ni _ hx, hE4]
  have hkeep : ∀ x, x < m → (va_up (tPl T) m p) x = tPl T x ∧ pB3 3 (tPl T x) = pB 3 (tPl T x) := fun x hx => by
    have := hb3 x hx
    refine ⟨va_up_ne _ _ (by omega), ?_⟩
    rw [k3 3 (by decide), hE3, if_neg (fun h => by omega)]
  have hinj : ∀ x, x < m → x ≠ k → tPl T x ≠ tPl T k := fun x hx hxk => by
    rcases Nat.lt_or_ge x k with h1 | h1
    · have := hcl.1 x k h1 hk
      omega
    · have := hcl.1 k x (by omega) hx
      omega
  refine ⟨fun j x hjx hx => ?_, fun x hx => ?_⟩
  · show va_up (tPl T) m p j < va_up (tPl T) m p x
    rw [va_up_ne _ _ (show j ≠ m by omega)]
    by_cases e : x = m
    · subst e
      rw [va_up_self]
      exact hb3 j hjx
    · rw [va_up_ne _ _ e]
      exact hcl.1 j x hjx (by omega)
  · by_cases em : x = m
    · subst em
      have hpl : tPl (tAdd T x w p f1 f2 nk (tNs T k (dn k) x) k (dn k)) x = p := va_up_self _ _ _
      have hwd : tWd (tAdd T x w p f1 f2 nk (tNs T k (dn k) x) k (dn k)) x = w := va_up_self _ _ _
      have hf1 : tF1 (tAdd T x w p f1 f2 nk (tNs T k (dn k) x) k (dn k)) x = f1 := va_up_self _ _ _
      have hf2 : tF2 (tAdd T x w p f1 f2 nk (tNs T k (dn k) x) k (dn k)) x = f2 := va_up_self _ _ _
      have hmn2 : tMn (tAdd T x w p f1 f2 nk (tNs T k (dn k) x) k (dn k)) x = 0 := va_up_self _ _ _
      have hsc : tSc (tAdd T x w p f1 f2 nk (tNs T k (dn k) x) k (dn k)) x = tNs T k (dn k) x := va_up_self _ _ _
      have hpk : tPl T k < p := hb3 k hk
      obtain ⟨-, -, hch, -⟩ := hcl.2 k hk
      obtain ⟨ch1, ch2⟩ := chC_keep (pl2 := va_up (tPl T) x p) (pB2 := pB3) hkeep (tSc T k) hch
      rw [hpl, hwd, hf1, hf2, hmn2, hsc]
      refine ⟨⟨?_, ?_, ?_⟩, fun i hi => absurd hi (Nat.not_lt_zero i), ?_, fun hw20 => ?_⟩
      · rw [k3 0 (by decide), hE0]
        exact hw
      · unfold hC
        rw [k3 0 (by decide), hE0]
        exact hC0
      · rw [k3 2 (by decide), hE2, if_neg (by omega), if_pos rfl]
        rfl
      · show chC (x + 1) (va_up (tPl T) x p) pB3 (tNs T k (dn k) x)
        unfold tNs
        by_cases e : tWd T k = 21 ∨ tWd T k = 33 ∨ (tWd T k = 32 ∧ dn k + 1 < tNk T k)
        · rw [if_pos e]
          refine ⟨⟨Nat.lt_succ_self x, ?_⟩, ch1⟩
          rw [va_up_self, k3 3 (by decide), hE3, if_pos ⟨rfl, e⟩, ch2]
        · rw [if_neg e]
          exact ch1
      · rcases h3 with ⟨_, h⟩ | ⟨_, j, hh, e1, e2, e3⟩
        · exact absurd hw20 h
        · refine ⟨j, hh, e1, e2, ?_⟩
          rw [e3, au_self]
          rfl
    · obtain ⟨⟨a1, a2, a3⟩, a4, a5, a6⟩ := hcl.2 x (by omega)
      have hpx := hb3 x (by omega)
      have hpl : tPl (tAdd T m w p f1 f2 nk (tNs T k (dn k) m) k (dn k)) x = tPl T x := va_up_ne _ _ em
      have hwd : tWd (tAdd T m w p f1 f2 nk (tNs T k (dn k) m) k (dn k)) x = tWd T x := va_up_ne _ _ em
      have hf1 : tF1 (tAdd T m w p f1 f2 nk (tNs T k (dn k) m) k (dn k)) x = tF1 T x := va_up_ne _ _ em
      have hf2 : tF2 (tAdd T m w p f1 f2 nk (tNs T k (dn k) m) k (dn k)) x = tF2 T x := va_up_ne _ _ em
      have hsc : tSc (tAdd T m w p f1 f2 nk (tNs T k (dn k) m) k (dn k)) x = tSc T x := va_up_ne _ _ em
      have hnk : tNk (tAdd T m w p f1 f2 nk (tNs T k (dn k) m) k (dn k)) x = tNk T x := va_up_ne _ _ em
      have hLd : ∀ i, tLd (tAdd T m w p f1 f2 nk (tNs T k (dn k) m) k (dn k)) x i = tLd T x i := fun i => by
        unfold tLd
        rw [hwd, hnk]
      obtain ⟨ch1, ch2⟩ := chC_keep (pl2 := va_up (tPl T) m p) (pB2 := pB3) hkeep (tSc T x) a5
      have h9 : tMn T x ≤ 9 := Nat.le_trans (h x (by omega)).2.1.2 (hOK9 (h x (by omega)).1.1)
      have h9k : tNk T k ≤ 9 := hOK9 (h k hk).1.1
      have kid : ∀ i, i < tMn T x → tIn (tAdd T m w p f1 f2 nk (tNs T k (dn k) m) k (dn k)) x i = tIn T x i ∧ tPl (tAdd T m w p f1 f2 nk (tNs T k (dn k) m) k (dn k)) (tIn T x i) = tPl T (tIn T x i) := fun i hi => by
        refine ⟨?_, va_up_ne _ _ (by have := ((h x (by omega)).2.2 i hi).1.2.1; omega)⟩
        show (if x = k ∧ i = dn k then m else tIn T x i) = tIn T x i
        rw [if_neg]
        rintro ⟨rfl, rfl⟩
        omega
      rw [hpl, hwd, hf1, hf2, hsc]
      refine ⟨⟨?_, ?_, ?_⟩, fun i hi => ?_, ch1, fun hw20 => ?_⟩
      · rw [k3 0 (by decide), hE0]
        exact a1
      · unfold hC at a2 ⊢
        rw [k3 0 (by decide), hE0]
        exact a2
      · rw [k3 2 (by decide), hE2]
        by_cases ek : x = k
        · subst ek
          rw [if_pos rfl]
          show nI (dn x + 1) = nI (va_up (va_up (tMn T) x (dn x + 1)) m 0 x)
          rw [va_up_ne _ _ em, va_up_self]
        · rw [if_neg (hinj x (by omega) ek), if_neg (by omega), a3]
          show nI (tMn T x) = nI (va_up (va_up (tMn T) k (dn k + 1)) m 0 x)
          rw [va_up_ne _ _ em, va_up_ne _ _ ek]
      · rw [hLd, k3 1 (by decide), hE1, k3 0 (by decide), hE0]
        by_cases ek : x = k
        · subst ek
          by_cases ei : i = dn x
          · subst ei
            have hin : tIn (tAdd T m w p f1 f2 nk (tNs T x (dn x) m) x (dn x)) x (dn x) = m := by
              show (if x = x ∧ dn x = dn x then m else tIn T x (dn x)) = m
              rw [if_pos ⟨rfl, rfl⟩]
            rw [hin, if_pos rfl, show tPl (tAdd T m w p f1 f2 nk (tNs T x (dn x) m) x (dn x)) m = p from va_up_self _ _ _]
            exact ⟨rfl, hl⟩
          · have hi2 : i < tMn T x := by
              have : i < va_up (va_up (tMn T) x (dn x + 1)) m 0 x := hi
              rw [va_up_ne _ _ em, va_up_self] at this
              omega
            obtain ⟨q1, q2⟩ := kid i hi2
            rw [q1, q2, if_neg (by omega)]
            exact a4 i hi2
        · have hi2 : i < tMn T x := by
            have : i < va_up (va_up (tMn T) k (dn k + 1)) m 0 x := hi
            rw [va_up_ne _ _ em, va_up_ne _ _ ek] at this
            exact this
          obtain ⟨q1, q2⟩ := kid i hi2
          have := hinj x (by omega) ek
          rw [q1, q2, if_neg (by omega)]
          exact a4 i hi2
      · obtain ⟨j, hh, e1, e2, e3⟩ := a6 hw20
        have hm2 : hh < m := chC_mem _ a5 hh (List.mem_of_getElem? e2)
        refine ⟨j, hh, e1, e2, ?_⟩
        rw [k4 _ (by omega), e3, show tPl (tAdd T m w p f1 f2 nk (tNs T k (dn k) m) k (dn k)) hh = tPl T hh from va_up_ne _ _ (by omega)]
theorem tAdd_re {g : Nat} {kd lb : Nat → Nat} {m w p nk : Nat} {f1 f2 : Int32} {T : TT} {dn : Nat → Nat} {k : Nat} {os : List Nat} {aw aw2 : mA} (h : tSt g kd lb m T (k :: os)) (hre : tRe m T aw) (hk : k < m) (hd : dn k < tNk T k) (hmn : tMn T k = dn k) (hl : tLd T k (dn k) → aw 37 (9 * k + dn k) = nI (tLa T k (dn k))) (e1 : ∀ x, x ≠ m → aw2 32 x = aw 32 x ∧ aw2 33 x = aw 33 x ∧ aw2 34 x = aw 34 x ∧ aw2 35 x = aw 35 x) (e2 : aw2 32 m = nI w ∧ aw2 33 m = nI p ∧ aw2 34 m = f1 ∧ aw2 35 m = f2) (e3 : ∀ x, aw2 38 x = if x = k then nI (dn k + 1) else if x = m then 0 else aw 38 x) (e4 : ∀ y, aw2 36 y = if y = 9 * k + dn k then nI m else aw 36 y) (e5 : aw2 37 = aw 37) : tRe (m + 1) (tAdd T m w p f1 f2 nk (tNs T k (dn k) m) k (dn k)) aw2 := by
  intro x hx
  rw [e5]
  by_cases em : x = m
  · subst em
    refine ⟨⟨?_, ?_, ?_, ?_, ?_⟩, fun i hi => ?_⟩
    · rw [e2.1, show tWd (tAdd T x w p f1 f2 nk (tNs T k (dn k) x) k (dn k)) x = w from va_up_self _ _ _]
    · rw [e2.2.1, show tPl (tAdd T x w p f1 f2 nk (tNs T k (dn k) x) k (dn k)) x = p from va_up_self _ _ _]
    · rw [e2.2.2.1, show tF1 (tAdd T x w p f1 f2 nk (tNs T k (dn k) x) k (dn k)) x = f1 from va_up_self _ _ _]
    · rw [e2.2.2.2, show tF2 (tAdd T x w p f1 f2 nk (tNs T k (dn k) x) k (dn k)) x = f2 from va_up_self _ _ _]
    · rw [e3, if_neg (by omega), if_pos rfl, show tMn (tAdd T x w p f1 f2 nk (tNs T k (dn k) x) k (dn k)) x = 0 from va_up_self _ _ _]
      rfl
    · rw [show tMn (tAdd T x w p f1 f2 nk (tNs T k (dn k) x) k (dn k)) x = 0 from va_up_self _ _ _] at hi
      exact absurd hi (Nat.not_lt_zero i)
  · obtain ⟨⟨a1, a2, a3, a4, a5⟩, a6⟩ := hre x (by omega)
    obtain ⟨b1, b2, b3, b4⟩ := e1 x em
    have hwd : tWd (tAdd T m w p f1 f2 nk (tNs T k (dn k) m) k (dn k)) x = tWd T x := va_up_ne _ _ em
    have hnk : tNk (tAdd T m w p f1 f2 nk (tNs T k (dn k) m) k (dn k)) x = tNk T x := va_up_ne _ _ em
    have hLd : ∀ i, tLd (tAdd T m w p f1 f2 nk (tNs T k (dn k) m) k (dn k)) x i = tLd T x i := fun i => by
      unfold tLd
      rw [hwd, hnk]
    have h9 : tMn T x ≤ 9 := Nat.le_trans (h x (by omega)).2.1.2 (hOK9 (h x (by omega)).1.1)
    have h9k : tNk T k ≤ 9 := hOK9 (h k hk).1.1
    refine ⟨⟨by rw [b1, hwd]; exact a1, ?_, ?_, ?_, ?_⟩, fun i hi => ?_⟩
    · rw [b2, show tPl (tAdd T m w p f1 f2 nk (tNs T k (dn k) m) k (dn k)) x = tPl T x from va_up_ne _ _ em]
      exact a2
    · rw [b3, show tF1 (tAdd T m w p f1 f2 nk (tNs T k (dn k) m) k (dn k)) x = tF1 T x from va_up_ne _ _ em]
      exact a3
    · rw [b4, show tF2 (tAdd T m w p f1 f2 nk (tNs T k (dn k) m) k (dn k)) x = tF2 T x from va_up_ne _ _ em]
      exact a4
    · rw [e3]
      by_cases ek : x = k
      · subst ek
        rw [if_pos rfl]
        show nI (dn x + 1) = nI (va_up (va_up (tMn T) x (dn x + 1)) m 0 x)
        rw [va_up_ne _ _ em, va_up_self]
      · rw [if_neg ek, if_neg em, a5]
        show nI (tMn T x) = nI (va_up (va_up (tMn T) k (dn k + 1)) m 0 x)
        rw [va_up_ne _ _ em, va_up_ne _ _ ek]
    · rw [hLd, e4]
      by_cases ek : x = k ∧ i = dn k
      · obtain ⟨rfl, rfl⟩ := ek
        have hin : tIn (tAdd T m w p f1 f2 nk (tNs T x (dn x) m) x (dn x)) x (dn x) = m := by
          show (if x = x ∧ dn x = dn x then m else tIn T x (dn x)) = m
          rw [if_pos ⟨rfl, rfl⟩]
        rw [hin, if_pos rfl]
        exact ⟨rfl, hl⟩
      · have hin : tIn (tAdd T m w p f1 f2 nk (tNs T k (dn k) m) k (dn k)) x i = tIn T x i := by
          show (if x = k ∧ i = dn k then m else tIn T x i) = tIn T x i
          rw [if_neg ek]
        have hi2 : i < tMn T x := by
          have h0 : i < va_up (va_up (tMn T) k (dn k + 1)) m 0 x := hi
          rw [va_up_ne _ _ em] at h0
          by_cases exk : x = k
          · subst exk
            rw [va_up_self] at h0
            omega
          · rw [va_up_ne _ _ exk] at h0
            exact h0
        rw [hin, if_neg (by omega)]
        exact a6 i hi2
