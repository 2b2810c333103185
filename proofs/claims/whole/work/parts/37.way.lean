theorem least_cons {kd lb : Nat → Nat} {pt : Nat → Nat → Nat} {x y l : Nat} {w : List Nat} (h : isLeast kd lb pt x y (l :: w)) : fitB kd lb x y = true ∧ l < 8 ∧ wl lb x y l = true ∧ isLeast kd lb pt (nxA kd pt x y l) (nxB kd pt x y l) w ∧ ∀ l2, l2 < l → wl lb x y l2 = true → ∀ v, isBad kd lb pt (nxA kd pt x y l2) (nxB kd pt x y l2) v → w.length < v.length := by
  obtain ⟨⟨a, b, ⟨h1, h2, h3, h4⟩, hf⟩, hm⟩ := h
  refine ⟨h1, h2, h3, ⟨⟨a, b, h4, hf⟩, fun v hv => ?_⟩, fun l2 hl2 hw2 v hv => ?_⟩
  · have := hm (l :: v) (bad_cons h1 h2 h3 hv)
    rcases this with q | ⟨q1, q2⟩
    · exact Or.inl (by simp at q; omega)
    · refine Or.inr ⟨by simp at q1; omega, ?_⟩
      rcases q2 with q2 | ⟨-, q2⟩
      · exact absurd q2 (Nat.lt_irrefl l)
      · exact q2
  · have := hm (l2 :: v) (bad_cons h1 (by omega) hw2 hv)
    rcases this with q | ⟨q1, q2⟩
    · simp at q; omega
    · rcases q2 with q2 | ⟨q2, -⟩
      · omega
      · omega
theorem least_nil {kd lb : Nat → Nat} {pt : Nat → Nat → Nat} {x y : Nat} (h : isLeast kd lb pt x y []) : fitB kd lb x y = false := by
  obtain ⟨⟨a, b, ⟨rfl, rfl⟩, hf⟩, -⟩ := h
  exact hf
theorem far_least {g : Nat} {kd lb : Nat → Nat} {pt : Nat → Nat → Nat} {aw : mA} (h : farI g kd lb pt aw) {x y : Nat} (hx : x < g) (hy : y < g) {w : List Nat} (hl : isLeast kd lb pt x y w) : aw 7 (400 * x + y) = nI w.length ∧ w.length < 40000 := by
  rcases h x y hx hy with ⟨h1, -⟩ | ⟨d, d1, d2, ⟨v, d3, d4⟩, d5⟩
  · exact absurd hl.1 (h1 w)
  · have e1 := d5 w hl.1
    have e2 : w.length ≤ v.length := by
      rcases hl.2 v d3 with q | ⟨q, -⟩ <;> omega
    have : d = w.length := by omega
    rw [← this]
    exact ⟨d2, d1⟩
theorem way_L78 {g : Nat} {kd lb : Nat → Nat} {pt : Nat → Nat → Nat} {iw : mI} {aw : mA} (hg : g ≤ 200) (hG : Gr g kd lb pt) (hr : rG g kd lb pt iw aw) (hF : farI g kd lb pt aw) {k : Int32 → Int32 → Int32 → Int32 → Int32 → Int32 → mI → mA → Option (Int32 × mI × mA)} {K S : Int32} {x y l : Nat} {w : List Nat} (hx : x < g) (hy : y < g) (hl : isLeast kd lb pt x y (l :: w)) : ∀ (d fu l2 : Nat), l2 + d = l → d + 1 < fu → mX12_way_L78 k fu K (nI (w.length + 1)) (nI x) (nI y) (nI l2) S (nI (lb x &&& lb y)) 0 iw aw = k K (nI w.length) (nI (nxA kd pt x y l)) (nI (nxB kd pt x y l)) (nI l) (S + 1) iw aw := by
  obtain ⟨h1, h2, h3, h4, h5⟩ := least_cons hl
  have hw2 := h3
  unfold wl at hw2
  rw [Bool.and_eq_true] at hw2
  have pa := (hG x hx).2.2.2.2 l h2 hw2.1
  have pb := (hG y hy).2.2.2.2 l h2 hw2.2
  have A1 : nxA kd pt x y l < g := by unfold nxA; split <;> omega
  have B1 : nxB kd pt x y l < g := by unfold nxB; split <;> omega
  obtain ⟨f1, f2⟩ := far_least hF A1 B1 h4
  have hm : lb x &&& lb y < 256 := Nat.lt_of_le_of_lt Nat.and_le_left (hG x hx).2.1
  have el : nI (w.length + 1) - 1 = nI w.length := nI_pred _
  intro d
  induction d with
  | zero =>
    intro fu l2 e hfu
    have e : l2 = l := by omega
    subst e
    obtain ⟨fu, rfl⟩ : ∃ m, fu = m + 2 := ⟨fu - 2, by omega⟩
    have hbit := bit_get hm h2
    rw [wl_bit] at hbit
    unfold mX12_way_L78
    rw [if_pos rfl, if_pos (by rw [hbit]; exact h3), r_next hg hG hr hx hy h2 h3, obe, if_neg (nI_in (by omega) (by omega)), ncl (by omega), f1, el, if_pos rfl]
    unfold mX12_way_J121
    rw [if_neg (by decide)]
    unfold mX12_way_L78
    rw [if_neg (by decide), r_next hg hG hr hx hy h2 h3, obe]
    have d1 : nI (400 * nxA kd pt x y l2 + nxB kd pt x y l2) / 400 = nI (nxA kd pt x y l2) := by
      rw [show (400 : Int32) = nI 400 from rfl, pk_div (by omega) (by decide) (by decide)]
      congr 1
      omega
    have d2 : nI (400 * nxA kd pt x y l2 + nxB kd pt x y l2) - nI (400 * nxA kd pt x y l2 + nxB kd pt x y l2) / 400 * 400 = nI (nxB kd pt x y l2) := by
      rw [show (400 : Int32) = nI 400 from rfl, pk_rem (by omega) (by decide) (by decide)]
      congr 1
      omega
    rw [d2, d1, show nI (w.length + 1) + (-1) = nI w.length from pk_m1 _]
  | succ d ih =>
    intro fu l2 e hfu
    obtain ⟨fu, rfl⟩ : ∃ m, fu = m + 1 := ⟨fu - 1, by omega⟩
    have hl2 : l2 < 8 := by omega
    have hi := ih fu (l2 + 1) (by omega) (by omega)
    have hJ : mX12_way_J121 k (mX12_way_L78 k fu) K (nI (w.length + 1)) (nI x) (nI y) (nI l2) S (nI (lb x &&& lb y)) 0 iw aw = k K (nI w.length) (nI (nxA kd pt x y l)) (nI (nxB kd pt x y l)) (nI l) (S + 1) iw aw := by
      unfold mX12_way_J121
      rw [if_pos rfl, show (1 : Int32) = nI 1 from rfl, nadd]
      exact hi
    have hbit := bit_get hm hl2
    rw [wl_bit] at hbit
    unfold mX12_way_L78
    rw [if_pos rfl]
    by_cases hwl : wl lb x y l2 = true
    · rw [if_pos (by rw [hbit]; exact hwl), r_next hg hG hr hx hy hl2 hwl, obe]
      have hw3 := hwl
      unfold wl at hw3
      rw [Bool.and_eq_true] at hw3
      have pa2 := (hG x hx).2.2.2.2 l2 hl2 hw3.1
      have pb2 := (hG y hy).2.2.2.2 l2 hl2 hw3.2
      have A2 : nxA kd pt x y l2 < g := by unfold nxA; split <;> omega
      have B2 : nxB kd pt x y l2 < g := by unfold nxB; split <;> omega
      rw [if_neg (nI_in (by omega) (by omega)), ncl (by omega), el]
      have hne : ¬ aw 7 (400 * nxA kd pt x y l2 + nxB kd pt x y l2) = nI w.length := by
        rcases hF _ _ A2 B2 with ⟨-, q⟩ | ⟨d', q1, q2, ⟨v, q3, q4⟩, -⟩
        · rw [q, m1ne2 (by omega)]
          exact fun h => h
        · rw [q2, neq (by omega) (by omega)]
          have := h5 l2 (by omega) hwl v q3
          omega
      rw [if_neg hne]
      exact hJ
    · rw [if_neg (by rw [hbit]; exact hwl)]
      exact hJ
theorem way_L56 {g : Nat} {kd lb : Nat → Nat} {pt : Nat → Nat → Nat} {iw : mI} {aw : mA} (hg : g ≤ 200) (hG : Gr g kd lb pt) (hr : rG g kd lb pt iw aw) (hF : farI g kd lb pt aw) {K : Nat} (hK : K < 100000) : ∀ (w : List Nat) (fu S x y : Nat) (lp : Int32), x < g → y < g → isLeast kd lb pt x y w → S ≤ K → K < S + w.length → K + 1 < S + fu → mX12_way_L56 fu (nI K) (nI w.length) (nI x) (nI y) lp (nI S) iw aw = some (nI (w.getD (K - S) 0), iw, aw) := by
  intro w
  induction w with
  | nil => intro fu S x y lp hx hy hl h1 h2; simp at h2; omega
  | cons l w ih =>
    intro fu S x y lp hx hy hl h1 h2 h3
    obtain ⟨fu, rfl⟩ : ∃ m, fu = m + 1 := ⟨fu - 1, by omega⟩
    obtain ⟨g1, g2, g3, g4, g5⟩ := least_cons hl
    have hw2 := g3
    unfold wl at hw2
    rw [Bool.and_eq_true] at hw2
    have pa := (hG x hx).2.2.2.2 l g2 hw2.1
    have pb := (hG y hy).2.2.2.2 l g2 hw2.2
    have A1 : nxA kd pt x y l < g := by unfold nxA; split <;> omega
    have B1 : nxB kd pt x y l < g := by unfold nxB; split <;> omega
    have hst := way_L78 hg hG hr hF (k := mX12_way_L56 fu) (K := nI K) (S := nI S) hx hy hl l bigF 0 (by omega) (by unfold bigF; omega)
    unfold mX12_way_L56
    rw [if_neg (nI_nlt h1 (by omega)), r_wanted hg hG hr hx hy g1, obe]
    generalize bigF = F at hst ⊢
    rw [nz] at hst ⊢
    rw [List.length_cons, hst]
    rw [show (1 : Int32) = nI 1 from rfl, nadd]
    by_cases hKS : K = S
    · subst hKS
      obtain ⟨fu, rfl⟩ : ∃ m, fu = m + 1 := ⟨fu - 1, by omega⟩
      unfold mX12_way_L56
      rw [if_pos (nI_lt (by omega) (by omega)), Nat.sub_self]
      rfl
    · rw [ih fu (S + 1) _ _ _ A1 B1 g4 (by omega) (by simp at h2; omega) (by omega)]
      rw [show K - S = (K - (S + 1)) + 1 by omega]
      rfl
