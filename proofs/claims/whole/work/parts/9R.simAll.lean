/-- THE RELATION: all that the class and the reference hold alike -/
def RlW (iv : mI) (ar : mA) (la : mL) (pA : mA) (_ : mA) (iw : mI) (aw : mA) : Prop := rlT iv ar iw aw ∧ iv 1111 = iw 2 ∧ rlG iv ar iw aw ∧ rlV iv ar iw aw ∧ rlP iv pA iw aw ∧ ordI iv la
section
variable {iv iv2 : mI} {ar ar2 : mA} {la la2 : mL} {pA pB : mA} {iw iw2 : mI} {aw aw2 : mA}
theorem rlT_keep (h1 : iv2 801 = iv 801) (h2 : ar2 800 = ar 800) (h3 : iw2 0 = iw 0) (h4 : aw2 1 = aw 1) (h : rlT iv ar iw aw) : rlT iv2 ar2 iw2 aw2 := by
  unfold rlT
  rw [h1, h2, h3, h4]
  exact h
theorem rlG_keep (h1 : iv2 303 = iv 303) (h2 : ∀ k, 299 < k → k < 303 → ar2 k = ar k) (h3 : iw2 3 = iw 3) (h4 : ∀ k, 3 < k → k < 7 → aw2 k = aw k) (h : rlG iv ar iw aw) : rlG iv2 ar2 iw2 aw2 := by
  unfold rlG cG rG
  rw [h1, h2 300 (by decide) (by decide), h2 301 (by decide) (by decide), h2 302 (by decide) (by decide), h3, h4 4 (by decide) (by decide), h4 5 (by decide) (by decide), h4 6 (by decide) (by decide)]
  exact h
theorem m_clear : sim_clear RlW := by
  intro iv ar la pA pB iw aw ⟨hT, h2, ⟨g, kd, lb, pt, hg, hG, hc, hr⟩, hV, hP, ho⟩
  obtain ⟨ivz, iwz, e1, e2, z1, z2, z3, z4, z5, z6, z7, z8, k1, k2⟩ := sp_clear (ar := ar) (la := la) (pA := pA) (pB := pB) (aw := aw) hg hc.1 hr.1
  refine ⟨nI g, ivz, ar, la, pA, pB, iwz, aw, e1, e2, rlT_keep (k1 801 (by decide) (by decide) (by decide) (by decide) (by decide) (by decide)) rfl (k2 0 (by decide) (by decide) (by decide) (by decide)) rfl hT, ?_, ⟨0, kd, lb, pt, by decide, fun k hk => by omega, ⟨z1, fun k hk => by omega⟩, ⟨z2, fun k hk => by omega⟩⟩, ⟨0, by decide, z5, z6, by rw [z7, z8], fun k hk => by omega⟩, Or.inl ⟨z3, z4⟩, ordI_keep (k1 503 (by decide) (by decide) (by decide) (by decide) (by decide) (by decide)) ho⟩
  rw [k1 1111 (by decide) (by decide) (by decide) (by decide) (by decide) (by decide), k2 2 (by decide) (by decide) (by decide) (by decide)]
  exact h2
theorem m_feed : sim_feed RlW := by
  intro a iv ar la pA pB iw aw ⟨hT, h2, hG, hV, hP, ho⟩
  obtain ⟨r, ivz, arz, iwz, awz, e1, e2, hT2, k1, k2, k3, k4⟩ := sp_feed (la := la) (pA := pA) (pB := pB) hT a
  refine ⟨r, ivz, arz, la, pA, pB, iwz, awz, e1, e2, hT2, ?_, ?_, ?_, ?_, ordI_keep (k1 503 (by decide)) ho⟩
  · rw [k1 1111 (by decide), k3 2 (by decide)]
    exact h2
  · exact rlG_keep (k1 303 (by decide)) (fun k _ h => k2 k (by omega)) (k3 3 (by decide)) (fun k h _ => k4 k (by omega)) hG
  · exact rlV_keep ⟨⟨k1 1005 (by decide), k1 408 (by decide)⟩, ⟨k2 1000 (by decide), k2 1001 (by decide), k2 1002 (by decide)⟩, ⟨k3 56 (by decide), k3 57 (by decide)⟩, k4 58 (by decide), k4 59 (by decide), k4 60 (by decide)⟩ hV
  · exact rlP_keep (k1 1110 (by decide)) (k3 30 (by decide)) (fun k h _ => k4 k (by omega)) hP
theorem m_type : sim_type RlW := by
  intro iv ar la pA pB iw aw ⟨hT, h2, hG, hV, hP, ho⟩
  obtain ⟨r, ivz, arz, iwz, awz, e1, e2, hT2, hG2, h22, ⟨k1, k2⟩, k3, k4⟩ := sp_type (la := la) (pA := pA) (pB := pB) hT hG
  refine ⟨r, ivz, arz, la, pA, pB, iwz, awz, e1, e2, hT2, h22, hG2, ?_, ?_, ordI_keep (k1 503 (by decide) (by decide) (by decide) (by decide) (by decide) (by decide) (by decide) (by decide)) ho⟩
  · exact rlV_keep ⟨⟨k1 1005 (by decide) (by decide) (by decide) (by decide) (by decide) (by decide) (by decide) (by decide), k1 408 (by decide) (by decide) (by decide) (by decide) (by decide) (by decide) (by decide) (by decide)⟩, ⟨k2 1000 (by decide) (by decide) (by decide) (by decide) (by decide) (by decide) (by decide), k2 1001 (by decide) (by decide) (by decide) (by decide) (by decide) (by decide) (by decide), k2 1002 (by decide) (by decide) (by decide) (by decide) (by decide) (by decide) (by decide)⟩, ⟨k3 56 (by decide) (by decide) (by decide) (by decide) (by decide) (by decide), k3 57 (by decide) (by decide) (by decide) (by decide) (by decide) (by decide)⟩, k4 58 (by decide) (by decide) (by decide) (by decide) (by decide) (by decide) (by decide), k4 59 (by decide) (by decide) (by decide) (by decide) (by decide) (by decide) (by decide), k4 60 (by decide) (by decide) (by decide) (by decide) (by decide) (by decide) (by decide)⟩ hV
  · exact rlP_keep (k1 1110 (by decide) (by decide) (by decide) (by decide) (by decide) (by decide) (by decide) (by decide)) (k3 30 (by decide) (by decide) (by decide) (by decide) (by decide) (by decide)) (fun k h _ => k4 k (by omega) (by omega) (by omega) (by omega) (by omega) (by omega) (by omega)) hP
theorem m_term : sim_term RlW := by
  intro iv ar la pA pB iw aw ⟨hT, h2, hG, hV, hP, ho⟩
  obtain ⟨r, ivz, arz, laz, pBz, iwz, awz, qz, e1, e2, hT2, hG2, ho2, h22, hq, hf⟩ := sp_term (pB := pB) hT hG ho hP
  have hV2 := rlV_keep hf hV
  refine ⟨r, ivz, arz, laz, pA, pBz, iwz, awz, qz, e1, e2, ?_, fun q => ?_, fun q => ?_, fun q => ?_, fun q => ?_⟩
  · rcases hq with ⟨q1 | q1, -⟩ | ⟨q1, -⟩ <;> omega
  · rcases hq with ⟨-, q1⟩ | ⟨q1, -⟩
    · exact ⟨hT2, h22, hG2, hV2, q1, ho2⟩
    · omega
  · rcases hq with ⟨q1 | q1, -⟩ | ⟨q1, -⟩ <;> omega
  · rcases hq with ⟨-, q1⟩ | ⟨q1, -⟩
    · exact ⟨hT2, h22, hG2, hV2, q1, ho2⟩
    · omega
  · rcases hq with ⟨q1 | q1, -⟩ | ⟨-, q1⟩
    · omega
    · omega
    · exact ⟨hT2, h22, hG2, hV2, q1, ho2⟩
theorem m_place : sim_place RlW := by
  intro iv ar la pA pB iw aw h
  obtain ⟨e1, e2⟩ := sp_place (ar := ar) (la := la) (pA := pA) (pB := pB) (aw := aw) h.2.1
  exact ⟨_, _, _, _, _, _, _, _, e1, e2, h⟩
theorem m_node : sim_node RlW := by
  intro a b iv ar la pA pB iw aw h
  obtain ⟨g, kd, lb, pt, hg, hG, hc, hr⟩ := h.2.2.1
  obtain ⟨r, e1, e2⟩ := sp_node (la := la) (pA := pA) (pB := pB) hg hG hc hr a b
  exact ⟨_, _, _, _, _, _, _, _, e1, e2, h⟩
/-- what asking the order leaves -/
theorem ord_keep (h : RlW iv ar la pA pB iw aw) (k1 : ∀ k, k ≠ 503 → iv2 k = iv k) (ho : ordI iv2 la2) (k2 : ∀ j, j < 7 ∨ 11 < j → aw2 j = aw j) : RlW iv2 ar la2 pA pB iw aw2 := by
  obtain ⟨hT, h2, hG, hV, hP, -⟩ := h
  refine ⟨rlT_keep (k1 801 (by decide)) rfl rfl (k2 1 (by decide)) hT, ?_, rlG_keep (k1 303 (by decide)) (fun _ _ _ => rfl) rfl (fun k _ h => k2 k (by omega)) hG, rlV_keep ⟨⟨k1 1005 (by decide), k1 408 (by decide)⟩, ⟨rfl, rfl, rfl⟩, ⟨rfl, rfl⟩, k2 58 (by decide), k2 59 (by decide), k2 60 (by decide)⟩ hV, rlP_keep (k1 1110 (by decide)) rfl (fun k h _ => k2 k (by omega)) hP, ho⟩
  rw [k1 1111 (by decide)]
  exact h2
theorem m_below : sim_below RlW := by
  intro a b iv ar la pA pB iw aw h
  obtain ⟨g, kd, lb, pt, hg, hG, hc, hr⟩ := h.2.2.1
  obtain ⟨iv2, la2, aw2, k1, ho, k2, ⟨r, e1, e2⟩, -⟩ := sp_order (pA := pA) (pB := pB) hg hG hc hr h.2.2.2.2.2 a b
  exact ⟨_, _, _, _, _, _, _, _, e1, e2, ord_keep h k1 ho k2⟩
theorem m_depth : sim_depth RlW := by
  intro a b iv ar la pA pB iw aw h
  obtain ⟨g, kd, lb, pt, hg, hG, hc, hr⟩ := h.2.2.1
  obtain ⟨iv2, la2, aw2, k1, ho, k2, -, ⟨r, e1, e2⟩, -⟩ := sp_order (pA := pA) (pB := pB) hg hG hc hr h.2.2.2.2.2 a b
  exact ⟨_, _, _, _, _, _, _, _, e1, e2, ord_keep h k1 ho k2⟩
theorem m_way : sim_way RlW := by
  intro a b i iv ar la pA pB iw aw h
  obtain ⟨g, kd, lb, pt, hg, hG, hc, hr⟩ := h.2.2.1
  obtain ⟨iv2, la2, aw2, k1, ho, k2, -, -, hw⟩ := sp_order (pA := pA) (pB := pB) hg hG hc hr h.2.2.2.2.2 a b
  obtain ⟨r, e1, e2⟩ := hw i
  exact ⟨_, _, _, _, _, _, _, _, e1, e2, ord_keep h k1 ho k2⟩
/-- what uniting and meeting leave -/
theorem join_keep {f g : Nat} {kd lb kd2 lb2 : Nat → Nat} {pt pt2 : Nat → Nat → Nat} (h : RlW iv ar la pA pB iw aw) (f1 : fCj iv ar iv2 ar2) (f2 : fR iw aw iw2 aw2) (hgr : grow f kd lb pt g kd2 lb2 pt2) (hG : Gr g kd2 lb2 pt2) (hc : cG g kd2 lb2 pt2 iv2 ar2) (hr : rG g kd2 lb2 pt2 iw2 aw2) : RlW iv2 ar2 la pA pB iw2 aw2 := by
  obtain ⟨hT, h2, -, hV, hP, ho⟩ := h
  obtain ⟨k1, k2⟩ := f1
  obtain ⟨k3, k4⟩ := f2
  refine ⟨rlT_keep (k1 801 (by decide) (by decide) (by decide)) (k2 800 (by decide) (by decide) (by decide) (by decide) (by decide) (by decide)) (k3 0 (by decide) (by decide) (by decide)) (k4 1 (by decide)) hT, ?_, ⟨g, kd2, lb2, pt2, hgr.2.1, hG, hc, hr⟩, rlV_keep ⟨⟨k1 1005 (by decide) (by decide) (by decide), k1 408 (by decide) (by decide) (by decide)⟩, ⟨k2 1000 (by decide) (by decide) (by decide) (by decide) (by decide) (by decide), k2 1001 (by decide) (by decide) (by decide) (by decide) (by decide) (by decide), k2 1002 (by decide) (by decide) (by decide) (by decide) (by decide) (by decide)⟩, ⟨k3 56 (by decide) (by decide) (by decide), k3 57 (by decide) (by decide) (by decide)⟩, k4 58 (by decide), k4 59 (by decide), k4 60 (by decide)⟩ hV, rlP_keep (k1 1110 (by decide) (by decide) (by decide)) (k3 30 (by decide) (by decide) (by decide)) (fun k h _ => k4 k (by omega)) hP, ordI_keep (k1 503 (by decide) (by decide) (by decide)) ho⟩
  rw [k1 1111 (by decide) (by decide) (by decide), k3 2 (by decide) (by decide) (by decide)]
  exact h2
theorem m_unite : sim_unite RlW := by
  intro a b iv ar la pA pB iw aw h
  obtain ⟨g, kd, lb, pt, hg, hG, hc, hr⟩ := h.2.2.1
  obtain ⟨r, iv2, ar2, iw2, aw2, e1, e2, f1, f2, g2, kd2, lb2, pt2, hgr, hG2, hc2, hr2⟩ := sp_unite (la := la) (pA := pA) (pB := pB) hG hg hc hr a b
  exact ⟨_, _, _, _, _, _, _, _, e1, e2, join_keep h f1 f2 hgr hG2 hc2 hr2⟩
theorem m_meet : sim_meet RlW := by
  intro a b iv ar la pA pB iw aw h
  obtain ⟨g, kd, lb, pt, hg, hG, hc, hr⟩ := h.2.2.1
  obtain ⟨r, iv2, ar2, iw2, aw2, e1, e2, f1, f2, g2, kd2, lb2, pt2, hgr, hG2, hc2, hr2⟩ := sp_meet (la := la) (pA := pA) (pB := pB) hG hg hc hr a b
  exact ⟨_, _, _, _, _, _, _, _, e1, e2, join_keep h f1 f2 hgr hG2 hc2 hr2⟩
theorem m_run : sim_run RlW := by
  intro a iv ar la pA pB iw aw ⟨hT, h2, hG, hV, hP, ho⟩
  obtain ⟨r, ivz, arz, iwz, awz, qz, e1, e2, hq, hV2, ⟨k1, k2⟩, k3, k4⟩ := sp_run (a := a) (ar := ar) (la := la) (pB := pB) hP hV
  have hz : RlW ivz arz la pA pB iwz awz := by
    refine ⟨rlT_keep (k1 801 (by decide) (by decide) (by decide)) (k2 800 (by decide)) (k3 0 (by decide)) (k4 1 (by decide)) hT, ?_, rlG_keep (k1 303 (by decide) (by decide) (by decide)) (fun k _ _ => k2 k (by omega)) (k3 3 (by decide)) (fun k _ _ => k4 k (by omega)) hG, hV2, rlP_keep (k1 1110 (by decide) (by decide) (by decide)) (k3 30 (by decide)) (fun k _ _ => k4 k (by omega)) hP, ordI_keep (k1 503 (by decide) (by decide) (by decide)) ho⟩
    rw [k1 1111 (by decide) (by decide) (by decide), k3 2 (by decide)]
    exact h2
  exact ⟨r, ivz, arz, la, pA, pB, iwz, awz, qz, e1, e2, hq, fun _ => hz, fun _ => hz⟩
theorem m_value : sim_value RlW := by
  intro a b iv ar la pA pB iw aw h
  obtain ⟨r, e1, e2⟩ := sp_value (la := la) (pA := pA) (pB := pB) h.2.2.2.1 a b
  exact ⟨_, _, _, _, _, _, _, _, e1, e2, h⟩
theorem m_count : sim_count RlW := by
  intro a iv ar la pA pB iw aw h
  obtain ⟨hT, h2, ⟨g, kd, lb, pt, hg, hG, hc, hr⟩, hV, hP, ho⟩ := id h
  obtain ⟨n, -, t1, t2, -⟩ := hT
  obtain ⟨n2, -, v1, v2, v3, -⟩ := hV
  have hp : (iv 1110 = 0 ∧ iw 30 = 0) ∨ (iv 1110 = 1 ∧ iw 30 = 1) := by
    rcases hP with q | ⟨q1, q2, -⟩
    · exact Or.inl q
    · exact Or.inr ⟨q1, q2⟩
  obtain ⟨r, e1, e2⟩ := sp_count (ar := ar) (la := la) (pA := pA) (pB := pB) (aw := aw) (by rw [hc.1, hr.1]) (by rw [t1, t2]) (by rw [v1, v2]) v3 hp a
  exact ⟨_, _, _, _, _, _, _, _, e1, e2, h⟩
theorem m_all : simAll RlW := ⟨m_clear, m_feed, m_type, m_term, m_place, m_node, m_below, m_depth, m_way, m_unite, m_meet, m_run, m_value, m_count⟩
theorem m_start : RlW iv0C (fun _ _ => 0) (fun _ _ => 0) (fun _ _ => 0) (fun _ _ => 0) iv0M (fun _ _ => 0) := by
  refine ⟨⟨0, by decide, rfl, rfl, fun j hj => by omega⟩, rfl, ⟨0, fun _ => 0, fun _ => 0, fun _ _ => 0, by decide, fun k hk => by omega, ⟨rfl, fun k hk => by omega⟩, ⟨rfl, fun k hk => by omega⟩⟩, ⟨0, by decide, rfl, rfl, rfl, fun k hk => by omega⟩, Or.inl ⟨rfl, rfl⟩, ?_⟩
  refine ⟨0, fun _ => 0, fun _ => 0, fun _ => 0, fun _ => 0, ⟨by decide, rfl, fun e he => by omega⟩, fun p hp => ?_⟩
  rw [sb_0]
  exact ⟨fun h => (by cases h), fun ⟨e, he, _⟩ => (by omega)⟩
end
