/-- a term as it is read, by the order of its words: word, place, first and second number, how many terms in it, how many read, which, their labels, the terms around that bind, the term around and which in it -/
abbrev TT := (Nat → Nat) × (Nat → Nat) × (Nat → Int32) × (Nat → Int32) × (Nat → Nat) × (Nat → Nat) × (Nat → Nat → Nat) × (Nat → Nat → Nat) × (Nat → List Nat) × (Nat → Nat) × (Nat → Nat)
def tWd (T : TT) : Nat → Nat := T.1
def tPl (T : TT) : Nat → Nat := T.2.1
def tF1 (T : TT) : Nat → Int32 := T.2.2.1
def tF2 (T : TT) : Nat → Int32 := T.2.2.2.1
def tNk (T : TT) : Nat → Nat := T.2.2.2.2.1
def tMn (T : TT) : Nat → Nat := T.2.2.2.2.2.1
def tIn (T : TT) : Nat → Nat → Nat := T.2.2.2.2.2.2.1
def tLa (T : TT) : Nat → Nat → Nat := T.2.2.2.2.2.2.2.1
def tSc (T : TT) : Nat → List Nat := T.2.2.2.2.2.2.2.2.1
def tPa (T : TT) : Nat → Nat := T.2.2.2.2.2.2.2.2.2.1
def tPo (T : TT) : Nat → Nat := T.2.2.2.2.2.2.2.2.2.2
/-- the term in k at i has a label; a variable is bound in it -/
def tLd (T : TT) (k i : Nat) : Prop := tWd T k = 29 ∨ (tWd T k = 32 ∧ i + 1 < tNk T k)
def tBd (T : TT) (k i : Nat) : Prop := tWd T k = 21 ∨ tWd T k = 33 ∨ (tWd T k = 32 ∧ i + 1 < tNk T k)
def tNs (T : TT) (k i x : Nat) : List Nat := if tWd T k = 21 ∨ tWd T k = 33 ∨ (tWd T k = 32 ∧ i + 1 < tNk T k) then x :: tSc T k else tSc T k
def hdI (pl : Nat → Nat) : List Nat → Int32
  | [] => m1
  | h :: _ => nI (pl h)
/-- the class's chain of what is bound -/
def chC (m : Nat) (pl : Nat → Nat) (pB : mA) : List Nat → Prop
  | [] => True
  | h :: s => (h < m ∧ pB 3 (pl h) = hdI pl s) ∧ chC m pl pB s
/-- how many terms a word wants, and what its numbers are -/
def hOK (g : Nat) (kd lb : Nat → Nat) (w nk : Nat) (f1 f2 : Int32) (sl : Nat) : Prop := (20 ≤ w ∧ w ≤ 33) ∧ (w = 20 → nk = 0 ∧ ∃ j, j < sl ∧ f1 = nI j) ∧ (w = 21 ∨ w = 33 → nk = 1 ∧ ∃ t, t < g ∧ f1 = nI t) ∧ (w = 22 ∨ w = 24 ∨ w = 25 → nk = 2) ∧ (w = 23 ∨ w = 26 ∨ w = 27 → nk = 0) ∧ (w = 28 → nk = 3) ∧ (w = 29 → nk ≤ 8 ∧ f1 = nI nk) ∧ (w = 30 → nk = 1 ∧ ∃ l, l < 8 ∧ f2 = nI l) ∧ (w = 31 → nk = 1 ∧ ∃ t l, t < g ∧ kd t = 6 ∧ l < 8 ∧ (lb t).testBit l = true ∧ f1 = nI t ∧ f2 = nI l) ∧ (w = 32 → 1 ≤ nk ∧ nk ≤ 9 ∧ f1 = nI (nk - 1))
/-- where the class finds these numbers -/
def hC (w : Nat) (f1 f2 : Int32) (p : Nat) (pB : mA) : Prop := (w = 20 ∨ w = 21 ∨ w = 23 ∨ w = 31 ∨ w = 33 → p + 1 < 200 ∧ pB 0 (p + 1) = f1) ∧ (w = 30 → p + 1 < 200 ∧ pB 0 (p + 1) = f2) ∧ (w = 31 → p + 2 < 200 ∧ pB 0 (p + 2) = f2)
/-- what reading a term leaves alone -/
def fA (iv : mI) (ar : mA) (iv2 : mI) (ar2 : mA) : Prop := (∀ k, k ≠ 802 → k ≠ 803 → k ≠ 804 → k ≠ 805 → k ≠ 707 → iv2 k = iv k) ∧ (∀ k, k ≠ 703 → k ≠ 704 → k ≠ 705 → k ≠ 706 → ar2 k = ar k)
def fB (iw : mI) (aw : mA) (iw2 : mI) (aw2 : mA) : Prop := (∀ k, k ≠ 2 → k ≠ 23 → k ≠ 24 → k ≠ 31 → k ≠ 48 → iw2 k = iw k) ∧ (∀ k, k < 32 ∨ (38 < k ∧ k < 46) ∨ k = 48 ∨ 49 < k → aw2 k = aw k)
theorem fA_r (iv : mI) (ar : mA) : fA iv ar iv ar := ⟨fun _ _ _ _ _ _ => rfl, fun _ _ _ _ _ => rfl⟩
theorem fB_r (iv : mI) (ar : mA) : fB iv ar iv ar := ⟨fun _ _ _ _ _ _ => rfl, fun _ _ => rfl⟩
theorem fA_t {iv iv2 iv3 : mI} {ar ar2 ar3 : mA} (h : fA iv ar iv2 ar2) (h2 : fA iv2 ar2 iv3 ar3) : fA iv ar iv3 ar3 := ⟨fun k a b c d e => by rw [h2.1 k a b c d e, h.1 k a b c d e], fun k a b c d => by rw [h2.2 k a b c d, h.2 k a b c d]⟩
theorem fB_t {iv iv2 iv3 : mI} {ar ar2 ar3 : mA} (h : fB iv ar iv2 ar2) (h2 : fB iv2 ar2 iv3 ar3) : fB iv ar iv3 ar3 := ⟨fun k a b c d e => by rw [h2.1 k a b c d e, h.1 k a b c d e], fun k a => by rw [h2.2 k a, h.2 k a]⟩
theorem fA_fail (iv : mI) (ar : mA) (a b : Int32) : fA iv ar (va_up (va_up iv 804 a) 805 b) ar := ⟨fun k _ _ h3 h4 _ => by rw [va_up_ne _ _ h4, va_up_ne _ _ h3], fun _ _ _ _ _ => rfl⟩
theorem fA_take (iv : mI) (ar : mA) (a b : Int32) : fA iv ar (va_up (va_up iv 803 a) 802 b) ar := ⟨fun k h1 h2 _ _ _ => by rw [va_up_ne _ _ h1, va_up_ne _ _ h2], fun _ _ _ _ _ => rfl⟩
theorem fB_fail (iv : mI) (ar : mA) (a b : Int32) : fB iv ar (va_up (va_up iv 24 a) 2 b) ar := ⟨fun k h1 _ h3 _ _ => by rw [va_up_ne _ _ h1, va_up_ne _ _ h3], fun _ _ => rfl⟩
theorem fB_take (iv : mI) (ar : mA) (b : Int32) : fB iv ar (va_up iv 23 b) ar := ⟨fun k _ h2 _ _ _ => by rw [va_up_ne _ _ h2], fun _ _ => rfl⟩
/-- a fault, in both -/
def flu (iv : mI) (iw : mI) : Prop := ∃ c w : Int32, (c = m11 ∨ c = m12 ∨ c = m14) ∧ iv 804 = c ∧ iw 24 = c ∧ iv 805 = w ∧ iw 2 = w
theorem flu_of {c : Int32} (hcc : c = m11 ∨ c = m12) {iv : mI} {iw : mI} {w : Int32} : flu (va_up (va_up iv 804 c) 805 w) (va_up (va_up iw 24 c) 2 w) := by
  refine ⟨c, w, ?_, rfl, rfl, rfl, rfl⟩
  rcases hcc with h | h
  · exact Or.inl h
  · exact Or.inr (Or.inl h)
theorem flu0 {iv : mI} {iw : mI} (h : flu iv iw) : ¬ iw 24 = 0 := by
  obtain ⟨c, w, hc, _, h2, _⟩ := h
  rw [h2]
  rcases hc with rfl | rfl | rfl <;> decide
/-- walking the chain of what is bound -/
theorem walk {m : Nat} {pl : Nat → Nat} {pB : mA} {iv : mI} {ar : mA} {la : mL} {pA : mA} {l1 : Int32} (hpl : ∀ h, h < m → pl h < 200) : ∀ (s : List Nat) (j n : Nat), s.length < n → j < 2147483648 → chC m pl pB s →
    (∃ h, s[j]? = some h ∧ h < m ∧ mX7_readVariable_L26 n l1 (hdI pl s) (nI j) iv ar la pA pB = mX7_readVariable_J51 l1 (nI (pl h)) iv ar la pA pB) ∨ (s.length ≤ j ∧ mX7_readVariable_L26 n l1 (hdI pl s) (nI j) iv ar la pA pB = mX7_readVariable_J51 l1 (-1) iv ar la pA pB)
  | [], j, n, hn, hj, _ => by
    obtain ⟨n, rfl⟩ : ∃ k, n = k + 1 := ⟨n - 1, by omega⟩
    refine Or.inr ⟨Nat.zero_le j, ?_⟩
    rw [mX7_readVariable_L26]
    by_cases e : nI j ≤ 0
    · rw [if_pos e]
      rfl
    · rw [if_neg e, if_pos (show hdI pl [] = -1 from rfl)]
      rfl
  | h :: s, 0, n, hn, hj, ⟨⟨h1, h2⟩, h3⟩ => by
    obtain ⟨n, rfl⟩ : ∃ k, n = k + 1 := ⟨n - 1, by omega⟩
    refine Or.inl ⟨h, rfl, h1, ?_⟩
    rw [mX7_readVariable_L26]
    rw [if_pos (show nI 0 ≤ (0 : Int32) by decide)]
    rfl
  | h :: s, j + 1, n, hn, hj, ⟨⟨h1, h2⟩, h3⟩ => by
    rw [List.length_cons] at hn
    obtain ⟨n, rfl⟩ : ∃ k, n = k + 1 := ⟨n - 1, by omega⟩
    have hp := hpl h h1
    have e : mX7_readVariable_L26 (n + 1) l1 (hdI pl (h :: s)) (nI (j + 1)) iv ar la pA pB = mX7_readVariable_L26 n l1 (hdI pl s) (nI j) iv ar la pA pB := by
      conv => lhs; rw [mX7_readVariable_L26]
      rw [if_neg (show ¬ nI (j + 1) ≤ (0 : Int32) from nI_ge (show 0 < j + 1 by omega) hj), show hdI pl (h :: s) = nI (pl h) from rfl, if_neg (show ¬ nI (pl h) = -1 by rw [nm1ne (by omega)]; exact id)]
      unfold mX6_outerB
      rw [if_neg (nI_pos (by omega)), if_neg (show ¬ (200 : Int32) ≤ nI (pl h) from nI_ge hp (by decide)), if_neg (by first | exact nI_in (by omega) (by omega) | exact nI_inn (by omega) (by omega)), obce, ncl (by omega), h2, pm1, nsub1]
    rw [e]
    rcases walk hpl s j n (by omega) (by omega) h3 with ⟨x, x1, x2, x3⟩ | ⟨x1, x2⟩
    · exact Or.inl ⟨x, x1, x2, x3⟩
    · exact Or.inr ⟨by rw [List.length_cons]; omega, x2⟩
