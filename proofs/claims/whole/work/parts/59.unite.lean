theorem sp_unite {f : Nat} {kd lb : Nat → Nat} {pt : Nat → Nat → Nat} {iv : mI} {ar : mA} {la : mL} {pA pB : mA} {iw : mI} {aw : mA} (hGr : Gr f kd lb pt) (hf2 : f ≤ 200) (hc : cG f kd lb pt iv ar) (hr : rG f kd lb pt iw aw) (a1 a2 : Int32) :
    ∃ (rz : Int32) (iv2 : mI) (ar2 : mA) (iw2 : mI) (aw2 : mA), mX11_unite a1 a2 iv ar la pA pB = some (rz, iv2, ar2, la, pA, pB) ∧ mX12_unite a1 a2 iw aw = some (rz, iw2, aw2) ∧ fCj iv ar iv2 ar2 ∧ fR iw aw iw2 aw2 ∧ ∃ (g : Nat) (kd2 lb2 : Nat → Nat) (pt2 : Nat → Nat → Nat), grow f kd lb pt g kd2 lb2 pt2 ∧ Gr g kd2 lb2 pt2 ∧ cG g kd2 lb2 pt2 iv2 ar2 ∧ rG g kd2 lb2 pt2 iw2 aw2 := by
  have no : mX11_unite a1 a2 iv ar la pA pB = some (m2, iv, ar, la, pA, pB) → mX12_unite a1 a2 iw aw = some (m2, iw, aw) → ∃ (rz : Int32) (iv2 : mI) (ar2 : mA) (iw2 : mI) (aw2 : mA), mX11_unite a1 a2 iv ar la pA pB = some (rz, iv2, ar2, la, pA, pB) ∧ mX12_unite a1 a2 iw aw = some (rz, iw2, aw2) ∧ fCj iv ar iv2 ar2 ∧ fR iw aw iw2 aw2 ∧ ∃ (g : Nat) (kd2 lb2 : Nat → Nat) (pt2 : Nat → Nat → Nat), grow f kd lb pt g kd2 lb2 pt2 ∧ Gr g kd2 lb2 pt2 ∧ cG g kd2 lb2 pt2 iv2 ar2 ∧ rG g kd2 lb2 pt2 iw2 aw2 := fun e1 e2 => ⟨m2, iv, ar, iw, aw, e1, e2, ⟨fun _ _ _ _ => rfl, fun _ _ _ _ _ _ _ => rfl⟩, ⟨fun _ _ _ _ => rfl, fun _ _ => rfl⟩, f, kd, lb, pt, ⟨Nat.le_refl _, hf2, fun _ _ => ⟨rfl, rfl, fun _ => rfl⟩⟩, hGr, hc, hr⟩
  rcases c_has (ar := ar) (la := la) (pA := pA) (pB := pB) hc.1 (show f ≤ 400 by omega) (a := a1) with ⟨a, ha, rfl, ca⟩ | ⟨na, ca⟩
  · rcases r_isNode (aw := aw) hr.1 (show f ≤ 400 by omega) (a := nI a) with ⟨_, _, _, ra⟩ | ⟨na, _⟩
    · rcases c_has (ar := ar) (la := la) (pA := pA) (pB := pB) hc.1 (show f ≤ 400 by omega) (a := a2) with ⟨b, hb, rfl, cb⟩ | ⟨nb, cb⟩
      · rcases r_isNode (aw := aw) hr.1 (show f ≤ 400 by omega) (a := nI b) with ⟨_, _, _, rb⟩ | ⟨nb, _⟩
        · obtain ⟨rz, iv2, ar2, iw2, aw2, e1, e2, e3, e4, e5⟩ := sp_join (la := la) (pA := pA) (pB := pB) hGr hf2 hc hr (show 0 < 2 by decide) ha hb
          refine ⟨rz, iv2, ar2, iw2, aw2, ?_, ?_, e3, e4, ?_⟩
          · unfold mX11_unite
            rw [ca, obce, if_neg (by decide), cb, obce, if_neg (by decide), show (0 : Int32) = nI 0 from rfl, e1, obce]
          · unfold mX12_unite
            rw [ra, obe, if_neg (by decide), rb, obe, if_neg (by decide), show (0 : Int32) = nI 0 from rfl, e2, obe]
          · rcases e5 with ⟨_, q1, q2⟩ | ⟨n, r, th, ta, tb, P, rs, _, _, q1, q2, q3, q4⟩
            · exact ⟨f, kd, lb, pt, ⟨Nat.le_refl _, hf2, fun _ _ => ⟨rfl, rfl, fun _ => rfl⟩⟩, hGr, q1, q2⟩
            · exact ⟨n, _, _, _, grow_J q1, q2, q3, q4⟩
        · exact absurd rfl (nb b hb)
      · rcases r_isNode (aw := aw) hr.1 (show f ≤ 400 by omega) (a := a2) with ⟨b, hb, e, _⟩ | ⟨_, rb⟩
        · exact absurd e (nb b hb)
        · refine no ?_ ?_
          · unfold mX11_unite
            rw [ca, obce, if_neg (by decide), cb, obce, if_pos rfl]
            rfl
          · unfold mX12_unite
            rw [ra, obe, if_neg (by decide), rb, obe, if_pos rfl]
            rfl
    · exact absurd rfl (na a ha)
  · rcases r_isNode (aw := aw) hr.1 (show f ≤ 400 by omega) (a := a1) with ⟨a, ha, e, _⟩ | ⟨_, ra⟩
    · exact absurd e (na a ha)
    · refine no ?_ ?_
      · unfold mX11_unite
        rw [ca, obce, if_pos rfl]
        rfl
      · unfold mX12_unite
        rw [ra, obe, if_pos rfl]
        rfl
theorem sp_meet {f : Nat} {kd lb : Nat → Nat} {pt : Nat → Nat → Nat} {iv : mI} {ar : mA} {la : mL} {pA pB : mA} {iw : mI} {aw : mA} (hGr : Gr f kd lb pt) (hf2 : f ≤ 200) (hc : cG f kd lb pt iv ar) (hr : rG f kd lb pt iw aw) (a1 a2 : Int32) :
    ∃ (rz : Int32) (iv2 : mI) (ar2 : mA) (iw2 : mI) (aw2 : mA), mX11_meet a1 a2 iv ar la pA pB = some (rz, iv2, ar2, la, pA, pB) ∧ mX12_meet a1 a2 iw aw = some (rz, iw2, aw2) ∧ fCj iv ar iv2 ar2 ∧ fR iw aw iw2 aw2 ∧ ∃ (g : Nat) (kd2 lb2 : Nat → Nat) (pt2 : Nat → Nat → Nat), grow f kd lb pt g kd2 lb2 pt2 ∧ Gr g kd2 lb2 pt2 ∧ cG g kd2 lb2 pt2 iv2 ar2 ∧ rG g kd2 lb2 pt2 iw2 aw2 := by
  have no : mX11_meet a1 a2 iv ar la pA pB = some (m2, iv, ar, la, pA, pB) → mX12_meet a1 a2 iw aw = some (m2, iw, aw) → ∃ (rz : Int32) (iv2 : mI) (ar2 : mA) (iw2 : mI) (aw2 : mA), mX11_meet a1 a2 iv ar la pA pB = some (rz, iv2, ar2, la, pA, pB) ∧ mX12_meet a1 a2 iw aw = some (rz, iw2, aw2) ∧ fCj iv ar iv2 ar2 ∧ fR iw aw iw2 aw2 ∧ ∃ (g : Nat) (kd2 lb2 : Nat → Nat) (pt2 : Nat → Nat → Nat), grow f kd lb pt g kd2 lb2 pt2 ∧ Gr g kd2 lb2 pt2 ∧ cG g kd2 lb2 pt2 iv2 ar2 ∧ rG g kd2 lb2 pt2 iw2 aw2 := fun e1 e2 => ⟨m2, iv, ar, iw, aw, e1, e2, ⟨fun _ _ _ _ => rfl, fun _ _ _ _ _ _ _ => rfl⟩, ⟨fun _ _ _ _ => rfl, fun _ _ => rfl⟩, f, kd, lb, pt, ⟨Nat.le_refl _, hf2, fun _ _ => ⟨rfl, rfl, fun _ => rfl⟩⟩, hGr, hc, hr⟩
  rcases c_has (ar := ar) (la := la) (pA := pA) (pB := pB) hc.1 (show f ≤ 400 by omega) (a := a1) with ⟨a, ha, rfl, ca⟩ | ⟨na, ca⟩
  · rcases r_isNode (aw := aw) hr.1 (show f ≤ 400 by omega) (a := nI a) with ⟨_, _, _, ra⟩ | ⟨na, _⟩
    · rcases c_has (ar := ar) (la := la) (pA := pA) (pB := pB) hc.1 (show f ≤ 400 by omega) (a := a2) with ⟨b, hb, rfl, cb⟩ | ⟨nb, cb⟩
      · rcases r_isNode (aw := aw) hr.1 (show f ≤ 400 by omega) (a := nI b) with ⟨_, _, _, rb⟩ | ⟨nb, _⟩
        · obtain ⟨rz, iv2, ar2, iw2, aw2, e1, e2, e3, e4, e5⟩ := sp_join (la := la) (pA := pA) (pB := pB) hGr hf2 hc hr (show 1 < 2 by decide) ha hb
          refine ⟨rz, iv2, ar2, iw2, aw2, ?_, ?_, e3, e4, ?_⟩
          · unfold mX11_meet
            rw [ca, obce, if_neg (by decide), cb, obce, if_neg (by decide), show (1 : Int32) = nI 1 from rfl, e1, obce]
          · unfold mX12_meet
            rw [ra, obe, if_neg (by decide), rb, obe, if_neg (by decide), show (1 : Int32) = nI 1 from rfl, e2, obe]
          · rcases e5 with ⟨_, q1, q2⟩ | ⟨n, r, th, ta, tb, P, rs, _, _, q1, q2, q3, q4⟩
            · exact ⟨f, kd, lb, pt, ⟨Nat.le_refl _, hf2, fun _ _ => ⟨rfl, rfl, fun _ => rfl⟩⟩, hGr, q1, q2⟩
            · exact ⟨n, _, _, _, grow_J q1, q2, q3, q4⟩
        · exact absurd rfl (nb b hb)
      · rcases r_isNode (aw := aw) hr.1 (show f ≤ 400 by omega) (a := a2) with ⟨b, hb, e, _⟩ | ⟨_, rb⟩
        · exact absurd e (nb b hb)
        · refine no ?_ ?_
          · unfold mX11_meet
            rw [ca, obce, if_neg (by decide), cb, obce, if_pos rfl]
            rfl
          · unfold mX12_meet
            rw [ra, obe, if_neg (by decide), rb, obe, if_pos rfl]
            rfl
    · exact absurd rfl (na a ha)
  · rcases r_isNode (aw := aw) hr.1 (show f ≤ 400 by omega) (a := a1) with ⟨a, ha, e, _⟩ | ⟨_, ra⟩
    · exact absurd e (na a ha)
    · refine no ?_ ?_
      · unfold mX11_meet
        rw [ca, obce, if_pos rfl]
        rfl
      · unfold mX12_meet
        rw [ra, obe, if_pos rfl]
        rfl
