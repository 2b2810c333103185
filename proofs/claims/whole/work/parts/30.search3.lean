theorem snoc_ind {P : List Nat → Prop} (h0 : P []) (hs : ∀ u l, P u → P (u ++ [l])) : ∀ v, P v := by
  intro v
  have : ∀ n (v : List Nat), v.length = n → P v := by
    intro n
    induction n with
    | zero => intro v hv; rw [List.length_eq_zero_iff.mp hv]; exact h0
    | succ n ih =>
      intro v hv
      rcases List.eq_nil_or_concat v with rfl | ⟨u, l, rfl⟩
      · exact h0
      · rw [List.concat_eq_append] at hv ⊢
        exact hs u l (ih u (by simp at hv; omega))
  exact this v.length v rfl
theorem bI_reach {kd lb : Nat → Nat} {pt : Nat → Nat → Nat} {a b m : Nat} {qa qb ql qf : Nat → Nat} {W : Nat → List Nat} {h : Nat} (hB : bI kd lb pt a b m qa qb ql qf W h 0) : ∀ v x y, lead kd lb pt v a b x y → (∃ e, e < m ∧ qa e = x ∧ qb e = y ∧ wle (W e) v) ∨ (h < m ∧ wle (W h) v) := by
  obtain ⟨⟨h0, a0, b0, w0⟩, h2, h3, h4, h5, h6⟩ := hB
  refine snoc_ind ?_ ?_
  · intro x y hl
    obtain ⟨rfl, rfl⟩ := hl
    exact Or.inl ⟨0, h0, a0, b0, by rw [w0]; exact wle_refl _⟩
  · intro u l ih x y hl
    obtain ⟨x0, y0, l1, l2, l3, l4, rfl, rfl⟩ := lead_split hl
    rcases ih x0 y0 l1 with ⟨e, he, rfl, rfl, hw⟩ | ⟨hm, hw⟩
    · by_cases heh : e < h
      · obtain ⟨e2, q1, q2, q3, q4⟩ := h6 e l l3 (Or.inl heh) he l4
        exact Or.inl ⟨e2, q1, q2, q3, wle_trans q4 (wle_app [l] hw)⟩
      · refine Or.inr ⟨by omega, wle_trans ?_ (wle_trans hw (wle_pre u [l]))⟩
        by_cases e1 : h = e
        · rw [e1]; exact wle_refl _
        · exact wlt_le (h4 h e (by omega) he)
    · exact Or.inr ⟨hm, wle_trans hw (wle_pre u [l])⟩
theorem bI_none {kd lb : Nat → Nat} {pt : Nat → Nat → Nat} {a b m : Nat} {qa qb ql qf : Nat → Nat} {W : Nat → List Nat} (hB : bI kd lb pt a b m qa qb ql qf W m 0) : ∀ v, ¬ isBad kd lb pt a b v := by
  rintro v ⟨x, y, hl, hf⟩
  rcases bI_reach hB v x y hl with ⟨e, he, rfl, rfl, hw⟩ | ⟨hm, -⟩
  · have := hB.2.2.2.2.1 e he
    rw [hf] at this
    cases this
  · omega
theorem bI_least {kd lb : Nat → Nat} {pt : Nat → Nat → Nat} {a b m : Nat} {qa qb ql qf : Nat → Nat} {W : Nat → List Nat} {h : Nat} (hB : bI kd lb pt a b m qa qb ql qf W h 0) (hh : h < m) (hf : fitB kd lb (qa h) (qb h) = false) : isLeast kd lb pt a b (W h) := by
  refine ⟨⟨qa h, qb h, hB.2.1 h hh, hf⟩, ?_⟩
  rintro v ⟨x, y, hl, hv⟩
  rcases bI_reach hB v x y hl with ⟨e, he, rfl, rfl, hw⟩ | ⟨-, hw⟩
  · by_cases e1 : e < h
    · have := hB.2.2.2.2.1 e e1
      rw [hv] at this
      cases this
    · by_cases e2 : h = e
      · rw [e2]; exact hw
      · exact wle_trans (wlt_le (hB.2.2.2.1 h e (by omega) he)) hw
  · exact hw
theorem bI_next {kd lb : Nat → Nat} {pt : Nat → Nat → Nat} {a b m : Nat} {qa qb ql qf : Nat → Nat} {W : Nat → List Nat} {h : Nat} (hB : bI kd lb pt a b m qa qb ql qf W h 8) (hf : fitB kd lb (qa h) (qb h) = true) : bI kd lb pt a b m qa qb ql qf W (h + 1) 0 := by
  obtain ⟨h1, h2, h3, h4, h5, h6⟩ := hB
  refine ⟨h1, h2, fun e a1 a2 => ?_, h4, fun e he => ?_, fun e l hl he hm hwl => h6 e l hl (by omega) hm hwl⟩
  · obtain ⟨p1, p2, p3⟩ := h3 e a1 a2
    exact ⟨p1, p2, Or.inl (by omega)⟩
  · by_cases e1 : e = h
    · rw [e1]; exact hf
    · exact h5 e (by omega)
/-- what a search leaves: the entries' words by their parents -/
def chain (m : Nat) (ql qf : Nat → Nat) (W : Nat → List Nat) : Prop := W 0 = [] ∧ ∀ e, 0 < e → e < m → qf e < e ∧ W e = W (qf e) ++ [ql e]
theorem search_loop {g : Nat} {kd lb : Nat → Nat} {pt : Nat → Nat → Nat} {ar : mA} {pA pB : mA} (hg : g ≤ 200) (hG : Gr g kd lb pt) {a b : Nat} (ha : a < g) (hb : b < g) : ∀ (n h m : Nat) (qa qb ql qf : Nat → Nat) (W : Nat → List Nat) (iv : mI) (la : mL), 40000 < h + n → h ≤ m → cG g kd lb pt iv ar → oA kd lb pt a b m qa qb ql qf W h 0 iv la →
    ∃ (r : Int32) (m2 : Nat) (qa2 qb2 ql2 qf2 : Nat → Nat) (W2 : Nat → List Nat) (iv2 : mI) (la2 : mL), mX5_search_L14 n (nI h) iv ar la pA pB = some (r, iv2, ar, la2, pA, pB) ∧ (∀ k, k ≠ 503 → iv2 k = iv k) ∧ (∀ k, k ≠ 501 → k ≠ 502 → la2 k = la k) ∧ oQ m2 qa2 qb2 ql2 qf2 iv2 la2 ∧ oS m2 qa2 qb2 la2 ∧ chain m2 ql2 qf2 W2 ∧ ((r = m1 ∧ ∀ v, ¬ isBad kd lb pt a b v) ∨ ∃ e, r = nI e ∧ e < m2 ∧ isLeast kd lb pt a b (W2 e)) := by
  intro n
  induction n with
  | zero =>
    intro h m qa qb ql qf W iv la h1 h2 _ hA
    have := hA.1.1
    omega
  | succ n ih =>
    intro h m qa qb ql qf W iv la h1 h2 hc hA
    obtain ⟨hQ, hS, hD, hB⟩ := hA
    have hch : chain m ql qf W := ⟨hB.1.2.2.2, fun e e1 e2 => ⟨(hB.2.2.1 e e1 e2).1, (hB.2.2.1 e e1 e2).2.1⟩⟩
    unfold mX5_search_L14
    have hm := hQ.1
    rw [show (40000 : Int32) = nI 40000 from rfl, hQ.2.1]
    by_cases hhm : h = m
    · subst hhm
      refine ⟨m1, h, qa, qb, ql, qf, W, iv, la, ?_, fun _ _ => rfl, fun _ _ _ => rfl, hQ, hS, hch, Or.inl ⟨rfl, bI_none hB⟩⟩
      simp (disch := omega) only [Nat.le_refl, bitn, bitn0, bit1n, ↓e_m1, ↓e_m2, ↓e_m3, ↓e_m11, ↓e_m12, ↓e_m13, ↓e_m14, ↓e_m15, ↓e_m16, nlit, nle, nlt, neq, ncl, nadd, nmul, obe, obce, upr, aur, m1ne, m1ne2, m1lt, m1le, m1nle, m1nlt, if_pos, if_neg, false_or, or_false, or_self, true_or, or_true, if_true, if_false, ite_true, ite_false, reduceIte, reduceCtorEq, Nat.not_lt_zero, Nat.zero_le, Option.some.injEq, Prod.mk.injEq]
    · have hlt : h < m := by omega
      obtain ⟨qa1, qb1, ql1, qf1, h501⟩ := hQ.2.2 h hlt
      have hlt2 := qP_lt (f := qf h) (l := ql h) (a := qa h) (b := qb h) (by omega) ql1 (by omega) (by omega)
      obtain ⟨gx, gy⟩ := lead_in hG ha hb (hB.2.1 h hlt)
      have hlo : (((la 501 (nI h).toNatClampNeg) >>> (Int32.toInt64 8 &&& 63)) &&& 255).toInt32 = nI (qa h) := by
        rw [ncl (by omega), h501, l_hi hlt2, qP_a ql1 (by omega) (by omega)]
      have hhi : ((la 501 (nI h).toNatClampNeg) &&& 255).toInt32 = nI (qb h) := by
        rw [ncl (by omega), h501, l_lo hlt2, qP_b ql1 (by omega) (by omega)]
      rw [hlo, hhi, c_fit (by omega) hG hc gx gy]
      simp only [obce]
      rw [if_neg (by rw [nle (by omega) (by omega)]; omega), if_neg (by rw [nle (by omega) (by omega)]; omega), if_neg (by rw [n0 (by omega), ncl (by omega), false_or]; omega), if_neg (by rw [n0 (by omega), ncl (by omega), false_or]; omega)]
      by_cases hf : fitB kd lb (qa h) (qb h) = true
      · rw [if_pos hf, if_neg (by decide)]
        obtain ⟨m3, qa3, qb3, ql3, qf3, W3, iv3, la3, r1, r2, r3, r4, r5, hm3⟩ := parts_loop (ar := ar) (pA := pA) (pB := pB) hg hG (a := a) (b := b) gx gy hf bigF 0 m qa qb ql qf W iv la (by unfold bigF; omega) (by omega) hc ⟨hQ, hS, hD, hB⟩ hlt rfl rfl
        have hc3 : cG g kd lb pt iv3 ar := ⟨by rw [r2 303 (by decide)]; exact hc.1, hc.2⟩
        have hB3 := bI_next r4.2.2.2 (by rw [hm3.1, hm3.2]; exact hf)
        obtain ⟨r, m4, qa4, qb4, ql4, qf4, W4, iv4, la4, s1, s2, s3, s4⟩ := ih (h + 1) m3 qa3 qb3 ql3 qf3 W3 iv3 la3 (by omega) (by omega) hc3 ⟨r4.1, r4.2.1, r4.2.2.1, hB3⟩
        refine ⟨r, m4, qa4, qb4, ql4, qf4, W4, iv4, la4, ?_, fun k hk => (s2 k hk).trans (r2 k hk), fun k k1 k2 => (s3 k k1 k2).trans (r3 k k1 k2), s4⟩
        unfold mX5_enterParts
        rw [show (0 : Int32) = nI 0 from rfl, r1]
        simp only [obce]
        rw [show (1 : Int32) = nI 1 from rfl, nadd]
        exact s1
      · rw [if_neg hf, if_pos rfl]
        have hff : fitB kd lb (qa h) (qb h) = false := by
          cases hq : fitB kd lb (qa h) (qb h) with
          | true => exact absurd hq hf
          | false => rfl
        exact ⟨nI h, m, qa, qb, ql, qf, W, iv, la, rfl, fun _ _ => rfl, fun _ _ _ => rfl, hQ, hS, hch, Or.inr ⟨h, rfl, hlt, bI_least hB hlt hff⟩⟩
