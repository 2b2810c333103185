/-- both measure the same: what each of the three answers is made of -/
theorem ord_both {g : Nat} {kd lb : Nat → Nat} {pt : Nat → Nat → Nat} {iv : mI} {ar : mA} {la : mL} {pA pB : mA} {iw : mI} {aw : mA} (hg : g ≤ 200) (hG : Gr g kd lb pt) (hc : cG g kd lb pt iv ar) (hr : rG g kd lb pt iw aw) (ho : ordI iv la) {a b : Nat} (ha : a < g) (hb : b < g) :
    ∃ (iv2 : mI) (la2 : mL) (aw2 : mA), (∀ k, k ≠ 503 → iv2 k = iv k) ∧ ordI iv2 la2 ∧ (∀ j, j < 7 ∨ 11 < j → aw2 j = aw j) ∧
      (∃ rs, mX5_search (nI a) (nI b) iv ar la pA pB = some (rs, iv2, ar, la2, pA, pB) ∧ ((rs = m1 ∧ (∀ v, ¬ isBad kd lb pt a b v) ∧ mX12_isBelow (nI a) (nI b) iw aw = some (1, iw, aw2)) ∨ (∃ e, e < 40000 ∧ rs = nI e) ∧ (∃ w, isBad kd lb pt a b w) ∧ mX12_isBelow (nI a) (nI b) iw aw = some (0, iw, aw2))) ∧
      (∃ rd, mX5_distance (nI a) (nI b) iv ar la pA pB = some (rd, iv2, ar, la2, pA, pB) ∧ mX12_farOf (nI a) (nI b) iw aw = some (rd, iw, aw2)) ∧
      ∀ k : Int32, ∃ rw, mX5_labelOnWay (nI a) (nI b) k iv ar la pA pB = some (rw, iv2, ar, la2, pA, pB) ∧ mX12_way (nI a) (nI b) k iw aw = some (rw, iw, aw2) := by
  obtain ⟨iv2, la2, h1, h2, h3, h4⟩ := c_order (pA := pA) (pB := pB) hg hG hc ho ha hb
  obtain ⟨aw2, m1', m2', m3'⟩ := r_measure hg hG hr
  have hr2 : rG g kd lb pt iw aw2 := ⟨hr.1, fun q hq => by rw [m2' 4 (by decide), m2' 5 (by decide), m2' 6 (by decide)]; exact hr.2 q hq⟩
  have e1 : (400 * nI a + nI b : Int32) = nI (400 * a + b) := by rw [show (400 : Int32) = nI 400 from rfl, nmul, nadd]
  have hfar : mX12_farOf (nI a) (nI b) iw aw = some (aw2 7 (400 * a + b), iw, aw2) := by
    unfold mX12_farOf
    rw [m1', obe, e1, if_neg (nI_in (by omega) (by omega)), ncl (by omega)]
  have hna : mX12_isNode (nI a) iw aw = some (1, iw, aw) := by
    rcases r_isNode (aw := aw) (a := nI a) hr.1 (by omega) with ⟨_, _, _, q⟩ | ⟨q, _⟩
    · exact q
    · exact absurd rfl (q a ha)
  have hnb : mX12_isNode (nI b) iw aw = some (1, iw, aw) := by
    rcases r_isNode (aw := aw) (a := nI b) hr.1 (by omega) with ⟨_, _, _, q⟩ | ⟨q, _⟩
    · exact q
    · exact absurd rfl (q b hb)
  have hway : ∀ k, mX12_way (nI a) (nI b) k iw aw = if aw2 7 (400 * a + b) < 0 then some (-1, iw, aw2) else if k < 0 then some (-1, iw, aw2) else if k < aw2 7 (400 * a + b) then mX12_way_L56 bigF k (aw2 7 (400 * a + b)) (nI a) (nI b) (-1) 0 iw aw2 else some (-1, iw, aw2) := by
    intro k
    unfold mX12_way
    rw [hna, obe, if_neg (by decide), hnb, obe, if_neg (by decide), hfar, obe]
  refine ⟨iv2, la2, aw2, h1, h3, m2', ?_⟩
  rcases h4 with ⟨n1, n2, n3, n4⟩ | ⟨w, e, w1, w2, w3, w4, w5, w6, w7⟩
  · have hf : aw2 7 (400 * a + b) = m1 := by
      rcases m3' a b ha hb with ⟨-, q⟩ | ⟨d, -, -, ⟨v, q, -⟩, -⟩
      · exact q
      · exact absurd q (n1 v)
    refine ⟨⟨m1, n2, Or.inl ⟨rfl, n1, ?_⟩⟩, ⟨m1, n3, by rw [hfar, hf]⟩, fun k => ⟨m1, n4 k, ?_⟩⟩
    · unfold mX12_isBelow
      rw [hfar, obe, hf, if_neg (by decide)]
    · rw [hway, hf, if_pos (by decide)]
      rfl
  · obtain ⟨f1, f2⟩ := far_least m3' ha hb w3
    refine ⟨⟨nI e, w4, Or.inr ⟨⟨e, w2, rfl⟩, ⟨w, w3.1⟩, ?_⟩⟩, ⟨nI w.length, w5, by rw [hfar, f1]⟩, fun k => ?_⟩
    · unfold mX12_isBelow
      rw [hfar, obe, f1, if_pos (nI_pos' (by omega))]
    · by_cases hk : ∃ j, j < w.length ∧ k = nI j
      · obtain ⟨j, hj, rfl⟩ := hk
        refine ⟨nI (w.getD j 0), w6 j hj, ?_⟩
        rw [hway, f1, if_neg (nI_pos (by omega)), if_neg (nI_pos (by omega)), if_pos (nI_lt hj (by omega))]
        have := way_L56 hg hG hr2 m3' (K := j) (by omega) w bigF 0 a b (-1) ha hb w3 (by omega) (by omega) (by unfold bigF; omega)
        generalize bigF = F at this ⊢
        rw [nz]
        exact this
      · have hk2 : ∀ j, j < w.length → k ≠ nI j := fun j hj q => hk ⟨j, hj, q⟩
        refine ⟨m1, w7 k hk2, ?_⟩
        rw [hway, f1, if_neg (nI_pos (by omega))]
        by_cases k0 : k < 0
        · rw [if_pos k0]; rfl
        · rw [if_neg k0, if_neg]
          · rfl
          · intro q
            rcases pk_ix k (n := w.length) (by omega) with z | z | ⟨j, hj, z⟩
            · exact k0 z
            · rw [Int32.lt_iff_toInt_lt] at q; rw [Int32.le_iff_toInt_le] at z; omega
            · exact hk2 j hj z
theorem sp_order {g : Nat} {kd lb : Nat → Nat} {pt : Nat → Nat → Nat} {iv : mI} {ar : mA} {la : mL} {pA pB : mA} {iw : mI} {aw : mA} (hg : g ≤ 200) (hG : Gr g kd lb pt) (hc : cG g kd lb pt iv ar) (hr : rG g kd lb pt iw aw) (ho : ordI iv la) (a b : Int32) :
    ∃ (iv2 : mI) (la2 : mL) (aw2 : mA), (∀ k, k ≠ 503 → iv2 k = iv k) ∧ ordI iv2 la2 ∧ (∀ j, j < 7 ∨ 11 < j → aw2 j = aw j) ∧
      (∃ r, mX11_below a b iv ar la pA pB = some (r, iv2, ar, la2, pA, pB) ∧ mX12_below a b iw aw = some (r, iw, aw2)) ∧
      (∃ r, mX11_depth a b iv ar la pA pB = some (r, iv2, ar, la2, pA, pB) ∧ mX12_depth a b iw aw = some (r, iw, aw2)) ∧
      ∀ k : Int32, ∃ r, mX11_way a b k iv ar la pA pB = some (r, iv2, ar, la2, pA, pB) ∧ mX12_way a b k iw aw = some (r, iw, aw2) := by
  have bad : ∀ (h : (mX3_has a iv ar la pA pB = some (0, iv, ar, la, pA, pB) ∧ mX12_isNode a iw aw = some (0, iw, aw)) ∨ (mX3_has a iv ar la pA pB = some (1, iv, ar, la, pA, pB) ∧ mX12_isNode a iw aw = some (1, iw, aw) ∧ mX3_has b iv ar la pA pB = some (0, iv, ar, la, pA, pB) ∧ mX12_isNode b iw aw = some (0, iw, aw))), ∃ (iv2 : mI) (la2 : mL) (aw2 : mA), (∀ k, k ≠ 503 → iv2 k = iv k) ∧ ordI iv2 la2 ∧ (∀ j, j < 7 ∨ 11 < j → aw2 j = aw j) ∧
      (∃ r, mX11_below a b iv ar la pA pB = some (r, iv2, ar, la2, pA, pB) ∧ mX12_below a b iw aw = some (r, iw, aw2)) ∧
      (∃ r, mX11_depth a b iv ar la pA pB = some (r, iv2, ar, la2, pA, pB) ∧ mX12_depth a b iw aw = some (r, iw, aw2)) ∧
      ∀ k : Int32, ∃ r, mX11_way a b k iv ar la pA pB = some (r, iv2, ar, la2, pA, pB) ∧ mX12_way a b k iw aw = some (r, iw, aw2) := by
    intro h
    refine ⟨iv, la, aw, fun _ _ => rfl, ho, fun _ _ => rfl, ?_⟩
    rcases h with ⟨q1, q2⟩ | ⟨q1, q2, q3, q4⟩
    · refine ⟨⟨-2, ?_, ?_⟩, ⟨-2, ?_, ?_⟩, fun k => ⟨-2, ?_, ?_⟩⟩
      · unfold mX11_below; rw [q1, obce, if_pos rfl]
      · unfold mX12_below; rw [q2, obe, if_pos rfl]
      · unfold mX11_depth; rw [q1, obce, if_pos rfl]
      · unfold mX12_depth; rw [q2, obe, if_pos rfl]
      · unfold mX11_way; rw [q1, obce, if_pos rfl]
      · unfold mX12_way; rw [q2, obe, if_pos rfl]
    · refine ⟨⟨-2, ?_, ?_⟩, ⟨-2, ?_, ?_⟩, fun k => ⟨-2, ?_, ?_⟩⟩
      · unfold mX11_below; rw [q1, obce, if_neg (by decide), q3, obce, if_pos rfl]
      · unfold mX12_below; rw [q2, obe, if_neg (by decide), q4, obe, if_pos rfl]
      · unfold mX11_depth; rw [q1, obce, if_neg (by decide), q3, obce, if_pos rfl]
      · unfold mX12_depth; rw [q2, obe, if_neg (by decide), q4, obe, if_pos rfl]
      · unfold mX11_way; rw [q1, obce, if_neg (by decide), q3, obce, if_pos rfl]
      · unfold mX12_way; rw [q2, obe, if_neg (by decide), q4, obe, if_pos rfl]
  rcases c_has (ar := ar) (la := la) (pA := pA) (pB := pB) (a := a) hc.1 (by omega) with ⟨i, hi, rfl, q1⟩ | ⟨hn, q1⟩
  · rcases r_isNode (aw := aw) (a := nI i) hr.1 (by omega) with ⟨_, _, _, q2⟩ | ⟨hn2, _⟩
    · rcases c_has (ar := ar) (la := la) (pA := pA) (pB := pB) (a := b) hc.1 (by omega) with ⟨j, hj, rfl, q3⟩ | ⟨hn3, q3⟩
      · rcases r_isNode (aw := aw) (a := nI j) hr.1 (by omega) with ⟨_, _, _, q4⟩ | ⟨hn4, _⟩
        · obtain ⟨iv2, la2, aw2, h1, h2, h3, ⟨rs, h4, h5⟩, ⟨rd, h6, h7⟩, h8⟩ := ord_both (pA := pA) (pB := pB) hg hG hc hr ho hi hj
          refine ⟨iv2, la2, aw2, h1, h2, h3, ?_, ⟨rd, ?_, ?_⟩, fun k => ?_⟩
          · rcases h5 with ⟨rfl, -, h5⟩ | ⟨⟨e, he, rfl⟩, -, h5⟩
            · refine ⟨1, ?_, ?_⟩
              · unfold mX11_below; rw [q1, obce, if_neg (by decide), q3, obce, if_neg (by decide), h4, obce, if_pos (show m1 = -1 from rfl)]
              · unfold mX12_below; rw [q2, obe, if_neg (by decide), q4, obe, if_neg (by decide), h5, obe, if_neg (by decide)]
            · refine ⟨0, ?_, ?_⟩
              · unfold mX11_below
                rw [q1, obce, if_neg (by decide), q3, obce, if_neg (by decide), h4, obce, if_neg]
                rw [nm1ne (by omega)]
                exact fun h => h
              · unfold mX12_below; rw [q2, obe, if_neg (by decide), q4, obe, if_neg (by decide), h5, obe, if_pos rfl]
          · unfold mX11_depth; rw [q1, obce, if_neg (by decide), q3, obce, if_neg (by decide), h6, obce]
          · unfold mX12_depth; rw [q2, obe, if_neg (by decide), q4, obe, if_neg (by decide), h7, obe]
          · obtain ⟨rw_, h9, h10⟩ := h8 k
            refine ⟨rw_, ?_, h10⟩
            unfold mX11_way; rw [q1, obce, if_neg (by decide), q3, obce, if_neg (by decide), h9, obce]
        · exact absurd rfl (hn4 j hj)
      · rcases r_isNode (aw := aw) (a := b) hr.1 (by omega) with ⟨j, hj, e, _⟩ | ⟨-, q4⟩
        · exact absurd e (hn3 j hj)
        · exact bad (Or.inr ⟨q1, q2, q3, q4⟩)
    · exact absurd rfl (hn2 i hi)
  · rcases r_isNode (aw := aw) (a := a) hr.1 (by omega) with ⟨j, hj, e, _⟩ | ⟨-, q2⟩
    · exact absurd e (hn j hj)
    · exact bad (Or.inl ⟨q1, q2⟩)
