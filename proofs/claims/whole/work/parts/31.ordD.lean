theorem c_search {g : Nat} {kd lb : Nat → Nat} {pt : Nat → Nat → Nat} {iv : mI} {ar : mA} {la : mL} {pA pB : mA} (hg : g ≤ 200) (hG : Gr g kd lb pt) (hc : cG g kd lb pt iv ar) (ho : ordI iv la) {a b : Nat} (ha : a < g) (hb : b < g) :
    ∃ (r : Int32) (m2 : Nat) (qa2 qb2 ql2 qf2 : Nat → Nat) (W2 : Nat → List Nat) (iv2 : mI) (la2 : mL), mX5_search (nI a) (nI b) iv ar la pA pB = some (r, iv2, ar, la2, pA, pB) ∧ (∀ k, k ≠ 503 → iv2 k = iv k) ∧ (∀ k, k ≠ 501 → k ≠ 502 → la2 k = la k) ∧ oQ m2 qa2 qb2 ql2 qf2 iv2 la2 ∧ oS m2 qa2 qb2 la2 ∧ chain m2 ql2 qf2 W2 ∧ ((r = m1 ∧ ∀ v, ¬ isBad kd lb pt a b v) ∨ ∃ e, r = nI e ∧ e < m2 ∧ isLeast kd lb pt a b (W2 e)) := by
  obtain ⟨la1, f1, f2, f3⟩ := c_forget ho (ar := ar) (pA := pA) (pB := pB)
  have hQ0 : oQ 0 (fun _ => 0) (fun _ => 0) (fun _ => 0) (fun _ => 0) (va_up iv 503 0) la1 := ⟨by omega, rfl, fun e he => absurd he (Nat.not_lt_zero e)⟩
  have hS0 : oS 0 (fun _ => 0) (fun _ => 0) la1 := by
    intro p hp
    rw [f3 (p / 64) (by omega), sb_0]
    constructor
    · intro h; cases h
    · rintro ⟨e, he, _⟩; exact absurd he (Nat.not_lt_zero e)
  have hD0 : oD 0 (fun _ => 0) (fun _ => 0) := fun i j hi => absurd hi (Nat.not_lt_zero i)
  rcases c_enter hQ0 hS0 hD0 (ar := ar) (pA := pA) (pB := pB) (a := a) (b := b) (l := 0) (f := 0) (by omega) (by omega) (by decide) (by decide) with ⟨⟨e, he, _⟩, _⟩ | ⟨-, la2, e1, e2, e3, e4, e5⟩
  · exact absurd he (Nat.not_lt_zero e)
  · simp only [Nat.zero_add] at e1 e3 e4 e5
    have hB : bI kd lb pt a b 1 (va_up (fun _ => 0) 0 a) (va_up (fun _ => 0) 0 b) (va_up (fun _ => 0) 0 0) (va_up (fun _ => 0) 0 0) (fun _ => []) 0 0 := by
      refine ⟨⟨by omega, rfl, rfl, rfl⟩, fun e he => ?_, fun e h1 h2 => absurd h1 (by omega), fun i j h1 h2 => absurd h1 (by omega), fun e he => absurd he (Nat.not_lt_zero e), fun e l hl he => absurd he (by omega)⟩
      have : e = 0 := by omega
      subst this
      exact ⟨rfl, rfl⟩
    have hc2 : cG g kd lb pt (va_up (va_up iv 503 0) 503 (nI 1)) ar := ⟨hc.1, hc.2⟩
    obtain ⟨r, m4, qa4, qb4, ql4, qf4, W4, iv4, la4, s1, s2, s3, s4⟩ := search_loop (ar := ar) (pA := pA) (pB := pB) hg hG ha hb bigF 0 1 _ _ _ _ (fun _ => []) _ la2 (by unfold bigF; omega) (by omega) hc2 ⟨e3, e4, e5, hB⟩
    refine ⟨r, m4, qa4, qb4, ql4, qf4, W4, iv4, la4, ?_, fun k hk => ?_, fun k k1 k2 => ?_, s4⟩
    · unfold mX5_search
      generalize bigF = F at s1 ⊢
      rw [f1, obce]
      rw [nz] at e1 s1 ⊢
      rw [e1, obce]
      exact s1
    · rw [s2 k hk, va_up_ne _ _ hk, va_up_ne _ _ hk]
    · rw [s3 k k1 k2, e2 k k1 k2, f2 k k2]
theorem chain_len {m : Nat} {ql qf : Nat → Nat} {W : Nat → List Nat} (h : chain m ql qf W) : ∀ n e, e ≤ n → e < m → (W e).length ≤ e := by
  intro n
  induction n with
  | zero =>
    intro e he hm
    have : e = 0 := by omega
    subst this
    rw [h.1]
    exact Nat.le_refl 0
  | succ n ih =>
    intro e he hm
    by_cases e0 : e = 0
    · subst e0; rw [h.1]; exact Nat.le_refl 0
    · obtain ⟨h1, h2⟩ := h.2 e (by omega) hm
      have := ih (qf e) (by omega) (by omega)
      rw [h2]
      simp
      omega
theorem chain_pos {m : Nat} {ql qf : Nat → Nat} {W : Nat → List Nat} (h : chain m ql qf W) {e : Nat} (he : e < m) : (W e).length = 0 ↔ e = 0 := by
  constructor
  · intro h0
    apply Classical.byContradiction
    intro hne
    obtain ⟨-, h2⟩ := h.2 e (by omega) he
    rw [h2] at h0
    simp at h0
  · rintro rfl
    rw [h.1]
    rfl
theorem c_came {m : Nat} {qa qb ql qf : Nat → Nat} {iv : mI} {la : mL} (hQ : oQ m qa qb ql qf iv la) {ar : mA} {pA pB : mA} {e : Nat} (he : e < m) : mX5_cameFrom (nI e) iv ar la pA pB = some (nI (qf e), iv, ar, la, pA, pB) := by
  obtain ⟨hm, h503, hE⟩ := hQ
  obtain ⟨h1, h2, h3, h4, h5⟩ := hE e he
  have hlt := qP_lt (f := qf e) (l := ql e) (a := qa e) (b := qb e) (by omega) h3 (by omega) (by omega)
  unfold mX5_cameFrom
  rw [h503, if_neg (nI_pos (by omega)), if_neg (nI_ge he (by omega)), if_neg (nI_in (by omega) (by omega)), ncl (by omega), h5, l_fr hlt, qP_f h3 (by omega) (by omega)]
theorem steps_loop {m : Nat} {qa qb ql qf : Nat → Nat} {W : Nat → List Nat} {iv : mI} {la : mL} (hQ : oQ m qa qb ql qf iv la) (hch : chain m ql qf W) {ar : mA} {pA pB : mA} : ∀ (n s e : Nat), e < m → (W e).length < n → s + (W e).length < m → mX5_stepsTo_L4 n (nI s) (nI e) iv ar la pA pB = some (nI (s + (W e).length), iv, ar, la, pA, pB) := by
  intro n
  induction n with
  | zero => intro s e _ h; omega
  | succ n ih =>
    intro s e he hn hs
    have hm := hQ.1
    unfold mX5_stepsTo_L4
    rw [show (0 : Int32) = nI 0 from rfl, hQ.2.1]
    by_cases e0 : e = 0
    · have := (chain_pos hch he).mpr e0
      rw [if_pos (nI_le (by omega) (by omega)), this, Nat.add_zero]
    · have hp : (W e).length ≠ 0 := fun h => e0 ((chain_pos hch he).mp h)
      obtain ⟨h1, h2⟩ := hch.2 e (by omega) he
      have hl : (W e).length = (W (qf e)).length + 1 := by rw [h2]; simp
      rw [if_neg (nI_ge (by omega) (by omega)), if_neg (nI_ge (by omega) (by omega)), c_came hQ he]
      simp only [obce]
      rw [show (1 : Int32) = nI 1 from rfl, nadd, ih (s + 1) (qf e) (by omega) (by omega) (by omega), show s + 1 + (W (qf e)).length = s + (W e).length by omega]
theorem c_steps {m : Nat} {qa qb ql qf : Nat → Nat} {W : Nat → List Nat} {iv : mI} {la : mL} (hQ : oQ m qa qb ql qf iv la) (hch : chain m ql qf W) {ar : mA} {pA pB : mA} {e : Nat} (he : e < m) : mX5_stepsTo (nI e) iv ar la pA pB = some (nI (W e).length, iv, ar, la, pA, pB) := by
  have hm := hQ.1
  have hl := chain_len hch e e (Nat.le_refl e) he
  have := steps_loop hQ hch (ar := ar) (pA := pA) (pB := pB) bigF 0 e he (by unfold bigF; omega) (by omega)
  rw [Nat.zero_add] at this
  exact this
theorem way_loop {m : Nat} {qa qb ql qf : Nat → Nat} {W : Nat → List Nat} {iv : mI} {la : mL} (hQ : oQ m qa qb ql qf iv la) (hch : chain m ql qf W) {ar : mA} {pA pB : mA} {k : Nat} : ∀ (n e : Nat), e < m → (W e).length < n + k → k < (W e).length → mX5_labelOnWay_L44 n (nI k) (nI e) (nI ((W e).length - 1)) iv ar la pA pB = some (nI ((W e).getD k 0), iv, ar, la, pA, pB) := by
  intro n
  induction n with
  | zero => intro e _ h1 h2; omega
  | succ n ih =>
    intro e he hn hk
    have hm := hQ.1
    have hlen := chain_len hch e e (Nat.le_refl e) he
    have e0 : e ≠ 0 := fun h => by have := (chain_pos hch he).mpr h; omega
    obtain ⟨h1, h2⟩ := hch.2 e (by omega) he
    have hl : (W e).length = (W (qf e)).length + 1 := by rw [h2]; simp
    unfold mX5_labelOnWay_L44
    rw [hQ.2.1]
    by_cases hlast : k = (W e).length - 1
    · obtain ⟨q1, q2, q3, q4, q5⟩ := hQ.2.2 e he
      have hlt := qP_lt (f := qf e) (l := ql e) (a := qa e) (b := qb e) (by omega) q3 (by omega) (by omega)
      rw [if_pos (nI_le (by omega) (by omega)), if_neg (nI_pos (by omega)), if_neg (nI_ge he (by omega)), if_neg (nI_in (by omega) (by omega)), ncl (by omega), q5, l_la hlt, qP_l q3 (by omega) (by omega)]
      have : (W e).getD k 0 = ql e := by
        rw [h2, List.getD_eq_getElem?_getD, List.getElem?_append_right (by omega), show k - (W (qf e)).length = 0 by omega]
        rfl
      rw [this]
    · rw [if_neg (nI_ge (by omega) (by omega)), c_came hQ he]
      simp only [obce]
      have hi := ih (qf e) (by omega) (by omega) (by omega)
      have e1 : nI ((W e).length - 1) + (-1) = nI ((W (qf e)).length - 1) := by
        rw [show (W e).length - 1 = ((W (qf e)).length - 1) + 1 by omega]
        exact pk_m1 _
      rw [e1, hi]
      have : (W e).getD k 0 = (W (qf e)).getD k 0 := by
        rw [h2, List.getD_eq_getElem?_getD, List.getD_eq_getElem?_getD, List.getElem?_append_left (by omega)]
      rw [this]
/-- the answers of the class, by the least word -/
theorem c_order {g : Nat} {kd lb : Nat → Nat} {pt : Nat → Nat → Nat} {iv : mI} {ar : mA} {la : mL} {pA pB : mA} (hg : g ≤ 200) (hG : Gr g kd lb pt) (hc : cG g kd lb pt iv ar) (ho : ordI iv la) {a b : Nat} (ha : a < g) (hb : b < g) :
    ∃ (iv2 : mI) (la2 : mL), (∀ k, k ≠ 503 → iv2 k = iv k) ∧ (∀ k, k ≠ 501 → k ≠ 502 → la2 k = la k) ∧ ordI iv2 la2 ∧
      (((∀ v, ¬ isBad kd lb pt a b v) ∧ mX5_search (nI a) (nI b) iv ar la pA pB = some (m1, iv2, ar, la2, pA, pB) ∧ mX5_distance (nI a) (nI b) iv ar la pA pB = some (m1, iv2, ar, la2, pA, pB) ∧ ∀ k : Int32, mX5_labelOnWay (nI a) (nI b) k iv ar la pA pB = some (m1, iv2, ar, la2, pA, pB)) ∨
      ∃ w e, w.length < 40000 ∧ e < 40000 ∧ isLeast kd lb pt a b w ∧ mX5_search (nI a) (nI b) iv ar la pA pB = some (nI e, iv2, ar, la2, pA, pB) ∧ mX5_distance (nI a) (nI b) iv ar la pA pB = some (nI w.length, iv2, ar, la2, pA, pB) ∧ (∀ k, k < w.length → mX5_labelOnWay (nI a) (nI b) (nI k) iv ar la pA pB = some (nI (w.getD k 0), iv2, ar, la2, pA, pB)) ∧ ∀ k : Int32, (∀ j, j < w.length → k ≠ nI j) → mX5_labelOnWay (nI a) (nI b) k iv ar la pA pB = some (m1, iv2, ar, la2, pA, pB)) := by
  obtain ⟨r, m2, qa, qb, ql, qf, W, iv2, la2, h1, h2, h3, hQ, hS, hch, h4⟩ := c_search (pA := pA) (pB := pB) hg hG hc ho ha hb
  refine ⟨iv2, la2, h2, h3, ⟨m2, qa, qb, ql, qf, hQ, hS⟩, ?_⟩
  have hm := hQ.1
  rcases h4 with ⟨rfl, hn⟩ | ⟨e, rfl, he, hl⟩
  · refine Or.inl ⟨hn, h1, ?_, fun k => ?_⟩
    · unfold mX5_distance
      rw [h1]
      simp only [obce]
      rw [if_pos (show m1 = -1 from rfl)]
      rfl
    · unfold mX5_labelOnWay
      rw [h1]
      simp only [obce]
      rw [if_pos (show m1 = -1 from rfl)]
      unfold mX5_labelOnWay_J24
      by_cases k0 : k < 0
      · rw [if_pos k0]; rfl
      · rw [if_neg k0, if_neg k0]; rfl
  · have hlen := chain_len hch e e (Nat.le_refl e) he
    have hst := c_steps hQ hch (ar := ar) (pA := pA) (pB := pB) he
    have hne : ¬ nI e = -1 := by
      have := nm1ne (a := e) (by omega)
      rw [this]
      exact fun h => h
    refine Or.inr ⟨W e, e, by omega, by omega, hl, h1, ?_, fun k hk => ?_, fun k hk => ?_⟩
    · unfold mX5_distance
      rw [h1]
      simp only [obce]
      rw [if_neg hne, hst]
      rfl
    · unfold mX5_labelOnWay
      rw [h1]
      simp only [obce]
      rw [if_neg hne, hst]
      simp only [obce]
      unfold mX5_labelOnWay_J24
      rw [if_neg (nI_pos (by omega)), if_pos (nI_lt hk (by omega)), show (1 : Int32) = nI 1 from rfl, nsub (by omega)]
      exact way_loop hQ hch bigF e he (by unfold bigF; omega) hk
    · unfold mX5_labelOnWay
      rw [h1]
      simp only [obce]
      rw [if_neg hne, hst]
      simp only [obce]
      unfold mX5_labelOnWay_J24
      rcases pk_ix k (n := (W e).length) (by omega) with q | q | ⟨j, hj, rfl⟩
      · rw [if_pos q]; rfl
      · have q2 : ¬ k < nI (W e).length := by
          rw [Int32.lt_iff_toInt_lt]; rw [Int32.le_iff_toInt_le] at q; omega
        rw [if_neg q2]
        by_cases k0 : k < 0
        · rw [if_pos k0]; rfl
        · rw [if_neg k0]; rfl
      · exact absurd rfl (hk j hj)
