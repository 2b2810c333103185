/-- the rule by which t is the type of term k -/
def tyR (kd lb : Nat → Nat) (pt : Nat → Nat → Nat) (T : TT) (ty va : Nat → Nat) (k t : Nat) : Prop :=
  (tWd T k = 20 → ∃ j h, tF1 T k = nI j ∧ (tSc T k)[j]? = some h ∧ t = va h) ∧
  (tWd T k = 21 → kd t = 4 ∧ tF1 T k = nI (pt t 0) ∧ pt t 1 = ty (tIn T k 0)) ∧
  (tWd T k = 22 → kd (ty (tIn T k 0)) = 1 ∨ (kd (ty (tIn T k 0)) = 4 ∧ blw kd lb pt (ty (tIn T k 1)) (pt (ty (tIn T k 0)) 0) ∧ t = pt (ty (tIn T k 0)) 1)) ∧
  (tWd T k = 23 ∨ tWd T k = 24 → kd t = 2) ∧ (tWd T k = 25 ∨ tWd T k = 26 ∨ tWd T k = 27 → kd t = 3) ∧
  (tWd T k = 28 → blw kd lb pt (ty (tIn T k 1)) t ∧ blw kd lb pt (ty (tIn T k 2)) t) ∧
  (tWd T k = 29 → kd t = 5 ∧ (∀ i, i < tNk T k → (lb t).testBit (tLa T k i) = true ∧ pt t (tLa T k i) = ty (tIn T k i)) ∧ ∀ l, l < 8 → (lb t).testBit l = true → ∃ i, i < tNk T k ∧ tLa T k i = l) ∧
  (tWd T k = 30 → kd (ty (tIn T k 0)) = 1 ∨ ∃ l, tF2 T k = nI l ∧ l < 8 ∧ kd (ty (tIn T k 0)) = 5 ∧ (lb (ty (tIn T k 0))).testBit l = true ∧ t = pt (ty (tIn T k 0)) l) ∧
  (tWd T k = 31 → ∃ l, tF1 T k = nI t ∧ tF2 T k = nI l ∧ l < 8 ∧ kd t = 6 ∧ (lb t).testBit l = true ∧ blw kd lb pt (ty (tIn T k 0)) (pt t l)) ∧
  (tWd T k = 32 → (kd (ty (tIn T k (tNk T k - 1))) = 1 ∨ (kd (ty (tIn T k (tNk T k - 1))) = 6 ∧ ∀ l, l < 8 → (lb (ty (tIn T k (tNk T k - 1)))).testBit l = true → ∃ i, i + 1 < tNk T k ∧ tLa T k i = l)) ∧ ∀ i, i + 1 < tNk T k → blw kd lb pt (ty (tIn T k i)) t) ∧
  (tWd T k = 33 → tF1 T k = nI t ∧ blw kd lb pt (ty (tIn T k 0)) t)
/-- the type of the variable that is bound in term i of k -/
def vaR (kd lb : Nat → Nat) (pt : Nat → Nat → Nat) (T : TT) (ty va : Nat → Nat) (k i : Nat) : Prop := (tWd T k = 21 ∨ tWd T k = 33 → tF1 T k = nI (va (tIn T k i))) ∧ (tWd T k = 32 → i + 1 < tNk T k → kd (ty (tIn T k (tNk T k - 1))) = 6 → (lb (ty (tIn T k (tNk T k - 1)))).testBit (tLa T k i) = true → va (tIn T k i) = pt (ty (tIn T k (tNk T k - 1))) (tLa T k i))
/-- what finding a type leaves alone -/
def fD (iv : mI) (ar : mA) (iv2 : mI) (ar2 : mA) : Prop := (∀ k, k ≠ 303 → k ≠ 4 → k ≠ 5 → k ≠ 503 → iv2 k = iv k) ∧ (∀ k, k ≠ 300 → k ≠ 301 → k ≠ 302 → k ≠ 1 → k ≠ 2 → k ≠ 3 → ar2 k = ar k)
def fE (iw : mI) (aw : mA) (iw2 : mI) (aw2 : mA) : Prop := (∀ k, k ≠ 2 → k ≠ 3 → k ≠ 17 → k ≠ 22 → k ≠ 24 → iw2 k = iw k) ∧ (∀ k, k < 4 ∨ 21 < k → aw2 k = aw k)
theorem fD_r (iv : mI) (ar : mA) : fD iv ar iv ar := ⟨fun _ _ _ _ _ => rfl, fun _ _ _ _ _ _ _ => rfl⟩
theorem fE_r (iv : mI) (ar : mA) : fE iv ar iv ar := ⟨fun _ _ _ _ _ _ => rfl, fun _ _ => rfl⟩
theorem fD_t {iv iv2 iv3 : mI} {ar ar2 ar3 : mA} (h : fD iv ar iv2 ar2) (h2 : fD iv2 ar2 iv3 ar3) : fD iv ar iv3 ar3 := ⟨fun k a b c d => by rw [h2.1 k a b c d, h.1 k a b c d], fun k a b c d e f => by rw [h2.2 k a b c d e f, h.2 k a b c d e f]⟩
theorem fE_t {iv iv2 iv3 : mI} {ar ar2 ar3 : mA} (h : fE iv ar iv2 ar2) (h2 : fE iv2 ar2 iv3 ar3) : fE iv ar iv3 ar3 := ⟨fun k a b c d e => by rw [h2.1 k a b c d e, h.1 k a b c d e], fun k a => by rw [h2.2 k a, h.2 k a]⟩
/-- the graph in both, and the class's order -/
def gAll (g : Nat) (kd lb : Nat → Nat) (pt : Nat → Nat → Nat) (iv : mI) (ar : mA) (la : mL) (iw : mI) (aw : mA) : Prop := g ≤ 200 ∧ Gr g kd lb pt ∧ cG g kd lb pt iv ar ∧ rG g kd lb pt iw aw ∧ ordI iv la
theorem grow_r {g : Nat} {kd lb : Nat → Nat} {pt : Nat → Nat → Nat} (hg : g ≤ 200) : grow g kd lb pt g kd lb pt := ⟨Nat.le_refl g, hg, fun _ _ => ⟨rfl, rfl, fun _ => rfl⟩⟩
theorem grow_t {f g h : Nat} {kd lb kd2 lb2 kd3 lb3 : Nat → Nat} {pt pt2 pt3 : Nat → Nat → Nat} (h1 : grow f kd lb pt g kd2 lb2 pt2) (h2 : grow g kd2 lb2 pt2 h kd3 lb3 pt3) : grow f kd lb pt h kd3 lb3 pt3 := ⟨Nat.le_trans h1.1 h2.1, h2.2.1, fun k hk => by
  obtain ⟨a1, a2, a3⟩ := h1.2.2 k hk
  obtain ⟨b1, b2, b3⟩ := h2.2.2 k (Nat.lt_of_lt_of_le hk h1.1)
  exact ⟨by rw [b1, a1], by rw [b2, a2], fun l => by rw [b3, a3]⟩⟩
/-- the class's order lives in rows of its own -/
theorem ordI_keep {iv iv2 : mI} {la : mL} (h : iv2 503 = iv 503) (ho : ordI iv la) : ordI iv2 la := by
  obtain ⟨m, qa, qb, ql, qf, h1, h2⟩ := ho
  refine ⟨m, qa, qb, ql, qf, ?_, h2⟩
  unfold oQ at h1 ⊢
  rw [h]
  exact h1
/-- what finding one type comes to: a node; MISFIT; FULL -/
def dOut (g : Nat) (kd lb : Nat → Nat) (pt : Nat → Nat → Nat) (T : TT) (ty va : Nat → Nat) (k : Nat) (iv : mI) (ar : mA) (pA pB : mA) (iw : mI) (aw : mA) (C : Option (Int32 × mI × mA × mL × mA × mA)) (R : Option (Int32 × mI × mA)) : Prop :=
  ∃ (c r : Int32) (g2 : Nat) (kd2 lb2 : Nat → Nat) (pt2 : Nat → Nat → Nat) (iv2 : mI) (ar2 : mA) (la2 : mL) (iw2 : mI) (aw2 : mA), C = some (c, iv2, ar2, la2, pA, pB) ∧ R = some (r, iw2, aw2) ∧ grow g kd lb pt g2 kd2 lb2 pt2 ∧ gAll g2 kd2 lb2 pt2 iv2 ar2 la2 iw2 aw2 ∧ fD iv ar iv2 ar2 ∧ fE iw aw iw2 aw2 ∧
    ((∃ t, t < g2 ∧ c = nI t ∧ r = nI t ∧ iw2 24 = 0 ∧ iw2 2 = iw 2 ∧ tyR kd2 lb2 pt2 T ty va k t) ∨ (c = m15 ∧ iw2 24 = m15 ∧ iw2 2 = nI (tPl T k)) ∨ (c = m3 ∧ iw2 24 = m3 ∧ iw2 2 = iw 2))
theorem c_make2 {g : Nat} {iv : mI} {ar : mA} {la : mL} {pA pB : mA} {K : Nat} (h : iv 303 = nI g) (hg : g ≤ 200) : mX3_make (nI K) iv ar la pA pB = if g < 200 then some (nI g, va_up iv 303 (nI (g + 1)), au (au ar 300 g (nI K)) 301 g (nI 0), la, pA, pB) else some (m3, iv, ar, la, pA, pB) := by
  unfold mX3_make
  rw [h]
  by_cases e : g < 200
  · rw [if_pos e, if_neg (show ¬ (200 : Int32) ≤ nI g from nI_ge e (by decide))]
    unfold mX3_draft
    rw [h, if_pos (show nI g < (400 : Int32) from nI_lt (show g < 400 by omega) (by decide)), if_neg (by first | exact nI_in (by omega) (by omega) | exact nI_inn (by omega) (by omega)), if_neg (by first | exact nI_in (by omega) (by omega) | exact nI_inn (by omega) (by omega)), ncl (by omega), show nI g + 1 = nI (g + 1) from nadd _ 1, va_up_self, nsub1, obce]
    rfl
  · rw [if_neg e, if_pos (show (200 : Int32) ≤ nI g from nI_le (show 200 ≤ g by omega) (by omega))]
    rfl
theorem r_more {g : Nat} {iw : mI} {aw : mA} {K : Nat} (h : iw 3 = nI g) (hg : g ≤ 200) (hK : K ≤ 6) (h24 : iw 24 = 0) : ∃ aw2, mX12_more (nI K) iw aw = (if g < 200 then some (nI g, va_up iw 3 (nI (g + 1)), aw2) else some (0, va_up iw 24 m3, aw)) ∧ (∀ j, j ≠ 4 → j ≠ 5 → j ≠ 6 → aw2 j = aw j) ∧ (∀ p, p ≠ g → aw2 4 p = aw 4 p ∧ aw2 5 p = aw 5 p) ∧ aw2 4 g = nI K ∧ aw2 5 g = nI (if K = 4 then 3 else 0) ∧ (∀ p, (p < 8 * g ∨ 8 * g + 8 ≤ p) → aw2 6 p = aw 6 p) := by
  obtain ⟨aw2, a1, a2, a3, a4, a5, a6⟩ := r_newNode (n := g) (iw := iw) (aw := aw) (by omega) h (b := 0) hK
  refine ⟨aw2, ?_, a2, a3, a4, a5, a6⟩
  unfold mX12_more
  rw [h]
  by_cases e : g < 200
  · rw [if_pos e, if_pos (show nI g < (200 : Int32) from nI_lt e (by decide)), show (0 : Int32) = nI 0 from rfl, a1, obe]
  · rw [if_neg e, if_neg (show ¬ nI g < (200 : Int32) from nI_nlt (show 200 ≤ g by omega) (by omega)), if_pos h24]
    rfl
/-- a node more, without parts -/
theorem g_new {g : Nat} {kd lb : Nat → Nat} {pt : Nat → Nat → Nat} {iv : mI} {ar : mA} {la : mL} {iw : mI} {aw aw2 : mA} (h : gAll g kd lb pt iv ar la iw aw) (hg : g < 200) {K : Nat} (hK : K ≤ 6) (hK4 : K ≠ 4) (a2 : ∀ j, j ≠ 4 → j ≠ 5 → j ≠ 6 → aw2 j = aw j) (a3 : ∀ p, p ≠ g → aw2 4 p = aw 4 p ∧ aw2 5 p = aw 5 p) (a4 : aw2 4 g = nI K) (a5 : aw2 5 g = nI (if K = 4 then 3 else 0)) (a6 : ∀ p, (p < 8 * g ∨ 8 * g + 8 ≤ p) → aw2 6 p = aw 6 p) :
    grow g kd lb pt (g + 1) (va_up kd g K) (va_up lb g 0) pt ∧ gAll (g + 1) (va_up kd g K) (va_up lb g 0) pt (va_up iv 303 (nI (g + 1))) (au (au ar 300 g (nI K)) 301 g (nI 0)) la (va_up iw 3 (nI (g + 1))) aw2 := by
  obtain ⟨h1, h2, h3, h4, h5⟩ := h
  refine ⟨⟨by omega, by omega, fun k hk => ⟨va_up_ne _ _ (by omega), va_up_ne _ _ (by omega), fun _ => rfl⟩⟩, by omega, fun k hk => ?_, ⟨rfl, fun k hk => ?_⟩, ⟨rfl, fun k hk => ?_⟩, ordI_keep rfl h5⟩
  · by_cases e : k = g
    · subst e
      rw [va_up_self, va_up_self]
      exact ⟨hK, by omega, fun _ => rfl, fun h => absurd h hK4, fun l _ hb => by rw [Nat.zero_testBit] at hb; cases hb⟩
    · rw [va_up_ne _ _ e, va_up_ne _ _ e]
      obtain ⟨x1, x2, x3, x4, x5⟩ := h2 k (by omega)
      exact ⟨x1, x2, x3, x4, fun l hl hb => Nat.lt_succ_of_lt (x5 l hl hb)⟩
  · by_cases e : k = g
    · subst e
      rw [va_up_self, va_up_self]
      exact ⟨by rw [au_ne _ (by decide), au_self], au_self _ _ _ _, fun l _ hb => by rw [Nat.zero_testBit] at hb; cases hb⟩
    · rw [va_up_ne _ _ e, va_up_ne _ _ e]
      obtain ⟨x1, x2, x3⟩ := h3.2 k (by omega)
      exact ⟨by rw [au_ne _ (by decide), au_ni _ e]; exact x1, by rw [au_ni _ e]; exact x2, x3⟩
  · by_cases e : k = g
    · subst e
      rw [va_up_self, va_up_self]
      refine ⟨a4, by rw [a5, if_neg hK4], fun l _ hb => by rw [Nat.zero_testBit] at hb; cases hb⟩
    · rw [va_up_ne _ _ e, va_up_ne _ _ e]
      obtain ⟨x1, x2, x3⟩ := h4.2 k (by omega)
      refine ⟨by rw [(a3 k e).1]; exact x1, by rw [(a3 k e).2]; exact x2, fun l hl hb => ?_⟩
      rw [a6 _ (by omega)]
      exact x3 l hl hb
/-- a leaf of a type: both make it, or both are FULL -/
theorem leaf_both {g : Nat} {kd lb : Nat → Nat} {pt : Nat → Nat → Nat} {iv : mI} {ar : mA} {la : mL} {pA pB : mA} {iw : mI} {aw : mA} (h : gAll g kd lb pt iv ar la iw aw) (h24 : iw 24 = 0) {K : Nat} (hK : K ≤ 3) :
    ∃ (c r : Int32) (g2 : Nat) (kd2 lb2 : Nat → Nat) (pt2 : Nat → Nat → Nat) (iv2 : mI) (ar2 : mA) (iw2 : mI) (aw2 : mA), mX3_make (nI K) iv ar la pA pB = some (c, iv2, ar2, la, pA, pB) ∧ mX12_more (nI K) iw aw = some (r, iw2, aw2) ∧ grow g kd lb pt g2 kd2 lb2 pt2 ∧ gAll g2 kd2 lb2 pt2 iv2 ar2 la iw2 aw2 ∧ fD iv ar iv2 ar2 ∧ fE iw aw iw2 aw2 ∧ iw2 2 = iw 2 ∧ ((c = nI g ∧ r = nI g ∧ g < g2 ∧ iw2 24 = 0 ∧ kd2 g = K) ∨ (c = m3 ∧ r = 0 ∧ iw2 24 = m3)) := by
  obtain ⟨aw2, a1, a2, a3, a4, a5, a6⟩ := r_more (aw := aw) h.2.2.2.1.1 h.1 (show K ≤ 6 by omega) h24
  rw [c_make2 h.2.2.1.1 h.1, a1]
  by_cases e : g < 200
  · rw [if_pos e, if_pos e]
    obtain ⟨b1, b2⟩ := g_new h e (show K ≤ 6 by omega) (by omega) a2 a3 a4 a5 a6
    exact ⟨_, _, g + 1, _, _, _, _, _, _, _, rfl, rfl, b1, b2, ⟨fun k a b c d => va_up_ne _ _ a, fun k a b c d e f => by rw [au_ne _ b, au_ne _ a]⟩, ⟨fun k a b c d e => va_up_ne _ _ b, fun k hk => a2 k (by omega) (by omega) (by omega)⟩, rfl, Or.inl ⟨rfl, rfl, Nat.lt_succ_self g, h24, va_up_self _ _ _⟩⟩
  · rw [if_neg e, if_neg e]
    refine ⟨_, _, g, kd, lb, pt, _, _, _, _, rfl, rfl, grow_r h.1, ⟨h.1, h.2.1, h.2.2.1, ⟨h.2.2.2.1.1, h.2.2.2.1.2⟩, h.2.2.2.2⟩, fD_r _ _, ⟨fun k a b c d e => va_up_ne _ _ e, fun _ _ => rfl⟩, rfl, Or.inr ⟨rfl, rfl, rfl⟩⟩
