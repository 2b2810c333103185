theorem obc_id (o : Option (Int32 × mI × mA × mL × mA × mA)) : obc o (fun r iv ar la pA pB => some (r, iv, ar, la, pA, pB)) = o := by
  cases o <;> rfl
theorem ob_id (o : Option (Int32 × mI × mA)) : ob o (fun r iv ar => some (r, iv, ar)) = o := by
  cases o <;> rfl
/-- the reference's row of what is bound around -/
def bnd (aw : mA) (va : Nat → Nat) : List Nat → Prop
  | [] => True
  | h :: s => aw 55 s.length = nI (va h) ∧ bnd aw va s
theorem bnd_get {aw : mA} {va : Nat → Nat} : ∀ (s : List Nat) (j h : Nat), bnd aw va s → s[j]? = some h → j < s.length ∧ aw 55 (s.length - 1 - j) = nI (va h)
  | [], j, h, _, e => by simp at e
  | x :: s, 0, h, ⟨h1, _⟩, e => by
    simp at e
    subst e
    exact ⟨by simp, by rw [List.length_cons, show s.length + 1 - 1 - 0 = s.length by omega]; exact h1⟩
  | x :: s, j + 1, h, ⟨_, h2⟩, e => by
    obtain ⟨a1, a2⟩ := bnd_get s j h h2 (by simpa using e)
    refine ⟨by rw [List.length_cons]; omega, ?_⟩
    rw [List.length_cons, show s.length + 1 - 1 - (j + 1) = s.length - 1 - j by omega]
    exact a2
/-- a term of which all terms in it have their types -/
def kAll (g0 : Nat) (kd0 lb0 : Nat → Nat) (g : Nat) (kd lb : Nat → Nat) (pt : Nat → Nat → Nat) (m : Nat) (T : TT) (ty va : Nat → Nat) (k : Nat) (iv : mI) (ar : mA) (la : mL) (pB : mA) (iw : mI) (aw : mA) : Prop := (tAll g0 kd0 lb0 m T ∧ ∀ t, t < g0 → t < g ∧ kd t = kd0 t ∧ lb t = lb0 t) ∧ (tCl m T pB ∧ tRe m T aw ∧ k < m) ∧ (gAll g kd lb pt iv ar la iw aw ∧ iw 24 = 0) ∧ (∀ i, i < tNk T k → ty (tIn T k i) < g ∧ ar 204 (tPl T (tIn T k i)) = nI (ty (tIn T k i)) ∧ aw 54 (tIn T k i) = nI (ty (tIn T k i))) ∧ (∀ h, h ∈ tSc T k → va h < g ∧ ar 205 (tPl T h) = nI (va h)) ∧ bnd aw va (tSc T k)
theorem jb_other {m : Nat} {T : TT} {g0 : Nat} {kd0 lb0 : Nat → Nat} {iv : mI} {ar : mA} {la : mL} {pA pB : mA} (h : tAll g0 kd0 lb0 m T) (hc : tCl m T pB) {k : Nat} (hk : k < m) (h28 : tWd T k ≠ 28) (h32 : tWd T k ≠ 32) (r : Int32) : mX2_joinBranches (nI (tPl T k)) r iv ar la pA pB = some (r, iv, ar, la, pA, pB) := by
  have hw := (h.2.2 k hk).1.1.1
  obtain ⟨F, hF, hFF⟩ : ∃ F, bigF = F + 1 ∧ 5000 < F := ⟨999999, rfl, by omega⟩
  unfold mX2_joinBranches
  rw [c_wordB h hc hk, obce, if_neg (show ¬ nI (tWd T k) = 28 from fun q => h28 ((nI_eq (b := 28) (by omega) (by decide)).mp q))]
  unfold mX2_joinBranches_J20
  rw [if_neg (show ¬ nI (tWd T k) = 28 from fun q => h28 ((nI_eq (b := 28) (by omega) (by decide)).mp q)), if_neg (show ¬ nI (tWd T k) = 32 from fun q => h32 ((nI_eq (b := 32) (by omega) (by decide)).mp q)), hF, mX2_joinBranches_L61]
  rw [if_pos (show (0 : Int32) ≤ 1 by decide)]
theorem c_isOr {g t K : Nat} {kd : Nat → Nat} {iv : mI} {ar : mA} {la : mL} {pA pB : mA} (h : iv 303 = nI g) (hg : g ≤ 200) (ht : t < g) (h4 : ar 300 t = nI (kd t)) (hk : kd t ≤ 6) (hK : K ≤ 6) : mX2_isOrNothing (nI t) (nI K) iv ar la pA pB = some (if kd t = K ∨ kd t = 1 then 1 else 0, iv, ar, la, pA, pB) := by
  unfold mX2_isOrNothing
  rw [c_kind4 h (by omega) ht h4, obce]
  by_cases e : kd t = K
  · rw [if_pos (show nI (kd t) = nI K by rw [e]), if_pos (Or.inl e)]
  · rw [if_neg (show ¬ nI (kd t) = nI K from fun q => e ((nI_eq (by omega) (by omega)).mp q)), c_kind4 h (by omega) ht h4, obce]
    by_cases e1 : kd t = 1
    · rw [if_pos (show nI (kd t) = 1 by rw [e1]; rfl), if_pos (Or.inr e1)]
    · rw [if_neg (show ¬ nI (kd t) = 1 from fun q => e1 ((nI_eq (b := 1) (by omega) (by decide)).mp q)), if_neg (by omega)]
theorem r_isKind {g t K : Nat} {kd : Nat → Nat} {iw : mI} {aw : mA} (hg : g ≤ 200) (ht : t < g) (h4 : aw 4 t = nI (kd t)) (hk : kd t ≤ 6) (hK : K ≤ 6) : mX12_isKind (nI t) (nI K) iw aw = some (if kd t = K ∨ kd t = 1 then 1 else 0, iw, aw) := by
  unfold mX12_isKind
  rw [if_neg (by first | exact nI_in (by omega) (by omega) | exact nI_inn (by omega) (by omega)), ncl (by omega), h4]
  by_cases e1 : kd t = 1
  · rw [if_pos (show nI (kd t) = 1 by rw [e1]; rfl), if_pos (Or.inr e1)]
  · rw [if_neg (show ¬ nI (kd t) = 1 from fun q => e1 ((nI_eq (b := 1) (by omega) (by decide)).mp q)), if_neg (by first | exact nI_in (by omega) (by omega) | exact nI_inn (by omega) (by omega))]
    by_cases e : kd t = K
    · rw [if_pos (show nI (kd t) = nI K by rw [e]), if_pos (Or.inl e)]
    · rw [if_neg (show ¬ nI (kd t) = nI K from fun q => e ((nI_eq (by omega) (by omega)).mp q)), if_neg (by omega)]
theorem r_mis {k m : Nat} {T : TT} {iw : mI} {aw : mA} (hm : m ≤ 200) (hr : tRe m T aw) (hk : k < m) : mX12_misfit (nI k) iw aw = some (0, va_up (va_up iw 24 m15) 2 (nI (tPl T k)), aw) := by
  unfold mX12_misfit
  rw [if_neg (by first | exact nI_in (by omega) (by omega) | exact nI_inn (by omega) (by omega)), ncl (by omega), (hr k hk).1.2.1]
  rfl
theorem r_partT {t l : Nat} {iw : mI} {aw : mA} (ht : t < 200) (hl : l < 8) {v : Int32} (h6 : aw 6 (8 * t + l) = v) : mX12_part (nI t) (nI l) iw aw = some (v, iw, aw) := by
  unfold mX12_part
  rw [show (8 : Int32) * nI t + nI l = nI (8 * t + l) by rw [show (8 : Int32) = nI 8 from rfl, nmul, nadd], if_neg (by first | exact nI_in (by omega) (by omega) | exact nI_inn (by omega) (by omega)), ncl (by omega), h6]
section
variable {g0 : Nat} {kd0 lb0 : Nat → Nat} {g : Nat} {kd lb : Nat → Nat} {pt : Nat → Nat → Nat} {m : Nat} {T : TT} {ty va : Nat → Nat} {k : Nat} {iv : mI} {ar : mA} {la : mL} {pA pB : mA} {iw : mI} {aw : mA}
/-- with one side's answers known, where nothing is to be joined -/
theorem dOut_of (h : kAll g0 kd0 lb0 g kd lb pt m T ty va k iv ar la pB iw aw) (h28 : tWd T k ≠ 28) (h32 : tWd T k ≠ 32) {R : Option (Int32 × mI × mA)} (hd : dOut g kd lb pt T ty va k iv ar pA pB iw aw (mX2_typeOf (nI (tPl T k)) iv ar la pA pB) R) : dOut g kd lb pt T ty va k iv ar pA pB iw aw (obc (mX2_typeOf (nI (tPl T k)) iv ar la pA pB) (fun r91 iv91 ar91 la91 pA91 pB91 => mX2_joinBranches (nI (tPl T k)) r91 iv91 ar91 la91 pA91 pB91)) R := by
  obtain ⟨c, r, g2, kd2, lb2, pt2, iv2, ar2, la2, iw2, aw2, e1, rest⟩ := hd
  exact ⟨c, r, g2, kd2, lb2, pt2, iv2, ar2, la2, iw2, aw2, by rw [e1, obce, jb_other h.1.1 h.2.1.1 h.2.1.2.2 h28 h32], rest⟩
theorem dOut_mis (h : kAll g0 kd0 lb0 g kd lb pt m T ty va k iv ar la pB iw aw) {iv2 : mI} {la2 : mL} {aw2 : mA} {r : Int32} (f1 : ∀ k, k ≠ 503 → iv2 k = iv k) (ho : ordI iv2 la2) (f2 : ∀ j, j < 7 ∨ 11 < j → aw2 j = aw j) {C : Option (Int32 × mI × mA × mL × mA × mA)} {R : Option (Int32 × mI × mA)} (hC : C = some (m15, iv2, ar, la2, pA, pB)) (hR : R = some (r, va_up (va_up iw 24 m15) 2 (nI (tPl T k)), aw2)) : dOut g kd lb pt T ty va k iv ar pA pB iw aw C R := by
  obtain ⟨-, -, ⟨hg, -⟩, -⟩ := h
  refine ⟨m15, r, g, kd, lb, pt, iv2, ar, la2, _, aw2, hC, hR, grow_r hg.1, ⟨hg.1, hg.2.1, ⟨by rw [f1 _ (by decide)]; exact hg.2.2.1.1, hg.2.2.1.2⟩, ⟨hg.2.2.2.1.1, fun x hx => ?_⟩, ho⟩, ⟨fun x a b c d => f1 x d, fun _ _ _ _ _ _ _ => rfl⟩, ⟨fun x a b c d e => by rw [va_up_ne _ _ a, va_up_ne _ _ e], fun x hx => f2 x (by omega)⟩, Or.inr (Or.inl ⟨rfl, rfl, rfl⟩)⟩
  rw [f2 4 (by decide), f2 5 (by decide), f2 6 (by decide)]
  exact hg.2.2.2.1.2 x hx
theorem dOut_ok (h : kAll g0 kd0 lb0 g kd lb pt m T ty va k iv ar la pB iw aw) {iv2 : mI} {la2 : mL} {aw2 : mA} {t : Nat} (f1 : ∀ k, k ≠ 503 → iv2 k = iv k) (ho : ordI iv2 la2) (f2 : ∀ j, j < 7 ∨ 11 < j → aw2 j = aw j) (ht : t < g) (hty : tyR kd lb pt T ty va k t) {C : Option (Int32 × mI × mA × mL × mA × mA)} {R : Option (Int32 × mI × mA)} (hC : C = some (nI t, iv2, ar, la2, pA, pB)) (hR : R = some (nI t, iw, aw2)) : dOut g kd lb pt T ty va k iv ar pA pB iw aw C R := by
  obtain ⟨-, -, ⟨hg, h24⟩, -⟩ := h
  refine ⟨nI t, nI t, g, kd, lb, pt, iv2, ar, la2, iw, aw2, hC, hR, grow_r hg.1, ⟨hg.1, hg.2.1, ⟨by rw [f1 _ (by decide)]; exact hg.2.2.1.1, hg.2.2.1.2⟩, ⟨hg.2.2.2.1.1, fun x hx => ?_⟩, ho⟩, ⟨fun x a b c d => f1 x d, fun _ _ _ _ _ _ _ => rfl⟩, ⟨fun x a b c d e => rfl, fun x hx => f2 x (by omega)⟩, Or.inl ⟨t, ht, rfl, rfl, h24, rfl, hty⟩⟩
  rw [f2 4 (by decide), f2 5 (by decide), f2 6 (by decide)]
  exact hg.2.2.2.1.2 x hx
theorem ty_leaf (h : kAll g0 kd0 lb0 g kd lb pt m T ty va k iv ar la pB iw aw) {K : Nat} (hK : K ≤ 3) (hty : ∀ kd2 lb2 pt2 t, kd2 t = K → tyR kd2 lb2 pt2 T ty va k t) {C : Option (Int32 × mI × mA × mL × mA × mA)} {R : Option (Int32 × mI × mA)} (hC : C = mX3_make (nI K) iv ar la pA pB) (hR : R = mX12_more (nI K) iw aw) : dOut g kd lb pt T ty va k iv ar pA pB iw aw C R := by
  obtain ⟨c, r, g2, kd2, lb2, pt2, iv2, ar2, iw2, aw2, a1, a2, a3, a4, a5, a6, a7, a8⟩ := leaf_both (pA := pA) (pB := pB) h.2.2.1.1 h.2.2.1.2 hK
  refine ⟨c, r, g2, kd2, lb2, pt2, iv2, ar2, la, iw2, aw2, by rw [hC, a1], by rw [hR, a2], a3, a4, a5, a6, ?_⟩
  rcases a8 with ⟨b1, b2, b3, b4, b5⟩ | ⟨b1, b2, b3⟩
  · exact Or.inl ⟨g, b3, b1, b2, b4, a7, hty kd2 lb2 pt2 g b5⟩
  · exact Or.inr (Or.inr ⟨b1, b3, a7⟩)
theorem hw_of (h : kAll g0 kd0 lb0 g kd lb pt m T ty va k iv ar la pB iw aw) {w : Nat} (e : tWd T k = w) : mX6_wordB (nI (tPl T k)) iv ar la pA pB = some (nI w, iv, ar, la, pA, pB) ∧ aw 32 k = nI w ∧ k < 200 := ⟨by rw [← e]; exact c_wordB h.1.1 h.2.1.1 h.2.1.2.2, by rw [← e]; exact (h.2.1.2.1 k h.2.1.2.2).1.1, Nat.lt_of_lt_of_le h.2.1.2.2 h.1.1.2.1⟩
theorem ty23 (h : kAll g0 kd0 lb0 g kd lb pt m T ty va k iv ar la pB iw aw) (e : tWd T k = 23) (b : Int32) : dOut g kd lb pt T ty va k iv ar pA pB iw aw (mX2_typeOf (nI (tPl T k)) iv ar la pA pB) (mX12_typeDone (nI k) b iw aw) := by
  obtain ⟨h1, h2, h3⟩ := hw_of (pA := pA) h e
  refine ty_leaf (K := 2) h (by omega) (fun kd2 lb2 pt2 t ht => (by unfold tyR; refine ⟨?_, ?_, ?_, ?_, ?_, ?_, ?_, ?_, ?_, ?_, ?_⟩ <;> intro hq <;> first | (exfalso; omega) | exact (ht))) ?_ ?_
  · rw [tof23 h1]
    exact obc_id _
  · rw [tdn23 h3 h2]
    exact ob_id _
theorem ty26 (h : kAll g0 kd0 lb0 g kd lb pt m T ty va k iv ar la pB iw aw) (e : tWd T k = 26 ∨ tWd T k = 27) (b : Int32) : dOut g kd lb pt T ty va k iv ar pA pB iw aw (mX2_typeOf (nI (tPl T k)) iv ar la pA pB) (mX12_typeDone (nI k) b iw aw) := by
  refine ty_leaf (K := 3) h (by omega) (fun kd2 lb2 pt2 t ht => (by unfold tyR; refine ⟨?_, ?_, ?_, ?_, ?_, ?_, ?_, ?_, ?_, ?_, ?_⟩ <;> intro hq <;> first | (exfalso; omega) | exact (ht))) ?_ ?_
  · rcases e with e | e
    · rw [tof26 (hw_of h e).1]
      exact obc_id _
    · rw [tof27 (hw_of h e).1]
      exact obc_id _
  · rcases e with e | e
    · rw [tdn26 (hw_of (pA := pA) h e).2.2 (hw_of (pA := pA) h e).2.1]
      exact ob_id _
    · rw [tdn27 (hw_of (pA := pA) h e).2.2 (hw_of (pA := pA) h e).2.1]
      exact ob_id _
end
