/-- a graph that holds another one -/
def grow (f : Nat) (kd lb : Nat → Nat) (pt : Nat → Nat → Nat) (g : Nat) (kd2 lb2 : Nat → Nat) (pt2 : Nat → Nat → Nat) : Prop := f ≤ g ∧ g ≤ 200 ∧ ∀ k, k < f → kd2 k = kd k ∧ lb2 k = lb k ∧ ∀ l, pt2 k l = pt k l
def fCj (iv : mI) (ar : mA) (iv2 : mI) (ar2 : mA) : Prop := (∀ k, k ≠ 303 → k ≠ 4 → k ≠ 5 → iv2 k = iv k) ∧ (∀ k, k ≠ 300 → k ≠ 301 → k ≠ 302 → k ≠ 1 → k ≠ 2 → k ≠ 3 → ar2 k = ar k)
theorem fCj_of {iv iv2 : mI} {ar ar2 : mA} {x y : Int32} (h : fC (va_up (va_up iv 5 x) 4 y) ar iv2 ar2) : fCj iv ar iv2 ar2 := ⟨fun k a b c => by rw [h.1 k a b, va_up_ne _ _ b, va_up_ne _ _ c], h.2⟩
theorem sp_join {f : Nat} {kd lb : Nat → Nat} {pt : Nat → Nat → Nat} {iv : mI} {ar : mA} {la : mL} {pA pB : mA} {iw : mI} {aw : mA} (hGr : Gr f kd lb pt) (hf2 : f ≤ 200) (hc : cG f kd lb pt iv ar) (hr : rG f kd lb pt iw aw) {h a b : Nat} (hh : h < 2) (ha : a < f) (hb : b < f) :
    ∃ (rz : Int32) (iv2 : mI) (ar2 : mA) (iw2 : mI) (aw2 : mA), mX0_join (nI h) (nI a) (nI b) iv ar la pA pB = some (rz, iv2, ar2, la, pA, pB) ∧ mX12_join (nI h) (nI a) (nI b) iw aw = some (rz, iw2, aw2) ∧ fCj iv ar iv2 ar2 ∧ fR iw aw iw2 aw2 ∧ ((rz = m3 ∧ cG f kd lb pt iv2 ar2 ∧ rG f kd lb pt iw2 aw2) ∨
      ∃ (n r : Nat) (th ta tb P : Nat → Nat) (rs : Nat → Nat → Nat), rz = nI r ∧ jrs f n kd th ta tb h a b r ∧ jG f n kd lb pt th ta tb P rs [] ∧ Gr n (kdJ f kd th ta tb) (lbJ f kd lb th ta tb) (ptJ f lb pt ta tb rs) ∧ cG n (kdJ f kd th ta tb) (lbJ f kd lb th ta tb) (ptJ f lb pt ta tb rs) iv2 ar2 ∧ rG n (kdJ f kd th ta tb) (lbJ f kd lb th ta tb) (ptJ f lb pt ta tb rs) iw2 aw2) := by
  rcases join_both (la := la) (pA := pA) (pB := pB) hGr hf2 hc hr hh ha hb with ⟨r, n1, th, ta, tb, iv0, ar0, iw0, aw0, f1, f2, hn, hrs, hE⟩ | ⟨iv2, ar2, iw2, aw2, e1, e2, e3, e4, f1, f2⟩
  · rcases hE with ⟨n2, th2, ta2, tb2, P2, rs2, iv2, ar2, iw2, aw2, h1, h2, h3, h4, h5, h6, h7, h8, h9⟩ | ⟨iv2, ar2, iw2, aw2, h1, h2, h3, h4, h8, h9⟩
    · obtain ⟨k1, k2, k3⟩ := end_graph hGr h3 h4 h5
      refine ⟨_, iv2, ar2, iw2, aw2, h1, h2, fCj_of (fC_t f1 h8), fR_t f2 h9, Or.inr ⟨n2, r, th2, ta2, tb2, P2, rs2, rfl, ?_, h3, k1, k2, k3⟩⟩
      rcases hrs with q | ⟨q1, q2, q3, q4, q5⟩
      · exact Or.inl q
      · obtain ⟨w1, w2, w3⟩ := h7 r q2
        exact Or.inr ⟨q1, by omega, by rw [w1]; exact q3, by rw [w2]; exact q4, by rw [w3]; exact q5⟩
    · exact ⟨_, iv2, ar2, iw2, aw2, h1, h2, fCj_of (fC_t f1 h8), fR_t f2 h9, Or.inl ⟨rfl, h3, h4⟩⟩
  · exact ⟨_, iv2, ar2, iw2, aw2, e1, e2, fCj_of f1, f2, Or.inl ⟨rfl, e3, e4⟩⟩
theorem grow_J {f n : Nat} {kd lb : Nat → Nat} {pt : Nat → Nat → Nat} {th ta tb P : Nat → Nat} {rs : Nat → Nat → Nat} {os : List Nat} (hG : jG f n kd lb pt th ta tb P rs os) : grow f kd lb pt n (kdJ f kd th ta tb) (lbJ f kd lb th ta tb) (ptJ f lb pt ta tb rs) := by
  refine ⟨hG.1.1, hG.1.2, fun k hk => ?_⟩
  unfold kdJ lbJ ptJ
  simp only [if_pos hk]
  refine ⟨trivial, trivial, fun _ => trivial⟩
