theorem join_both {f : Nat} {kd lb : Nat → Nat} {pt : Nat → Nat → Nat} {iv : mI} {ar : mA} {la : mL} {pA pB : mA} {iw : mI} {aw : mA} (hGr : Gr f kd lb pt) (hf2 : f ≤ 200) (hc : cG f kd lb pt iv ar) (hr : rG f kd lb pt iw aw) {h a b : Nat} (hh : h < 2) (ha : a < f) (hb : b < f) :
    (∃ (r n1 : Nat) (th ta tb : Nat → Nat) (iv0 : mI) (ar0 : mA) (iw0 : mI) (aw0 : mA), fC (va_up (va_up iv 5 (nI f)) 4 (nI 0)) ar iv0 ar0 ∧ fR iw aw iw0 aw0 ∧ f ≤ n1 ∧ jrs f n1 kd th ta tb h a b r ∧ jEnd f n1 kd lb pt th ta tb (nI r) (mX0_join (nI h) (nI a) (nI b) iv ar la pA pB) (mX12_join (nI h) (nI a) (nI b) iw aw) iv0 ar0 la pA pB iw0 aw0) ∨
    (∃ (iv2 : mI) (ar2 : mA) (iw2 : mI) (aw2 : mA), mX0_join (nI h) (nI a) (nI b) iv ar la pA pB = some (m3, iv2, ar2, la, pA, pB) ∧ mX12_join (nI h) (nI a) (nI b) iw aw = some (m3, iw2, aw2) ∧ cG f kd lb pt iv2 ar2 ∧ rG f kd lb pt iw2 aw2 ∧ fC (va_up (va_up iv 5 (nI f)) 4 (nI 0)) ar iv2 ar2 ∧ fR iw aw iw2 aw2) := by
  obtain ⟨F, hF, hF2⟩ : ∃ F, bigF = F + 1 ∧ 5000 < F := ⟨999999, rfl, by omega⟩
  obtain ⟨iw0, aw0, fr0, hR0, eR⟩ := r_first hr h a b (fun _ => 0) (fun _ => 0) (fun _ => 0) (fun _ => 8) (fun _ _ => 0) F
  have hG0 : jG f f kd lb pt (fun _ => 0) (fun _ => 0) (fun _ => 0) (fun _ => 8) (fun _ _ => 0) [] := ⟨⟨Nat.le_refl _, hf2⟩, fun m h1 h2 => by omega, fun m m2 h1 h2 => by omega, fun o ho => (by cases ho), List.nodup_nil, fun m h1 h2 => by omega⟩
  have hC0 : jC f f kd lb pt (fun _ => 0) (fun _ => 0) (fun _ => 0) (fun _ => 8) (fun _ => 8) (fun _ _ => 0) [] (va_up (va_up iv 5 (nI f)) 4 (nI 0)) ar := ⟨⟨by rw [va_up_ne _ _ (by decide), va_up_ne _ _ (by decide)]; exact hc.1, by rw [va_up_ne _ _ (by decide), va_up_self], va_up_self _ _ _⟩, hc.2, fun m h1 h2 => by omega, trivial⟩
  have eRj : mX12_join (nI h) (nI a) (nI b) iw aw = ob (mX12_simple (nI h) (nI a) (nI b) iw0 aw0) (fun r i w => if 0 ≤ r then mX12_join_J132 (mX12_join_L28 F) (nI f) m1 m1 (nI 0) (nI h) (nI a) (nI b) r i w else ob (mX12_findMade (nI h) (nI a) (nI b) i w) (fun r i w => mX12_join_J132 (mX12_join_L28 F) (nI f) m1 m1 (nI 0) (nI h) (nI a) (nI b) r i w)) := by
    unfold mX12_join
    rw [hF]
    exact eR
  have eCj : mX0_join (nI h) (nI a) (nI b) iv ar la pA pB = obc (mX0_joinTop (nI h) (nI a) (nI b) (va_up (va_up iv 5 (nI f)) 4 (nI 0)) ar la pA pB) (fun r i a b c d => mX0_join_L32 (F + 1) r r (nI 0) i a b c d) := by
    unfold mX0_join mX3_size
    rw [hF, obce, hc.1]
    rfl
  have put : ∀ (r : Nat) (i : mI) (w : mA), mX12_join_J170 (mX12_join_L28 F) (nI f) m1 m1 (nI 0) (nI r) i w = mX12_join_L28 F (nI f) (nI r) i w := fun r i w => by
    unfold mX12_join_J170
    rw [if_pos (show m1 < 0 by decide)]
  have nm3 : ∀ r, r < 400 → ¬ nI r = -3 := fun r hr q => by
    have := nI_pos (show r < 2147483648 by omega)
    rw [q] at this
    exact this (by decide)
  rw [eRj, eCj]
  rcases top_both (la := la) (pA := pA) (pB := pB) hGr hG0 hC0 hR0 hh ha hb (by decide) (by decide) with ⟨r, ⟨hr1, hrs⟩, eC, eK⟩ | ⟨e1, e2, ⟨hn, eC⟩ | ⟨hn, iv2, ar2, iw2, aw2, eC, eM, q1, q2, q3, q4, hG2, hC2, hR2⟩⟩
  · refine Or.inl ⟨r, f, _, _, _, _, _, iw0, aw0, ⟨fun _ _ _ => rfl, fun _ _ _ _ _ _ _ => rfl⟩, fr0, Nat.le_refl _, hrs, ?_⟩
    have h0 : (0 : Int32) ≤ nI r := nI_pos' (by omega)
    have eK2 : ob (mX12_simple (nI h) (nI a) (nI b) iw0 aw0) (fun r i w => if 0 ≤ r then mX12_join_J132 (mX12_join_L28 F) (nI f) m1 m1 (nI 0) (nI h) (nI a) (nI b) r i w else ob (mX12_findMade (nI h) (nI a) (nI b) i w) (fun r i w => mX12_join_J132 (mX12_join_L28 F) (nI f) m1 m1 (nI 0) (nI h) (nI a) (nI b) r i w)) = mX12_join_L28 F (nI f) (nI r) iw0 aw0 := by
      rcases eK with e | ⟨e1, e2⟩
      · rw [e, obe, if_pos h0]
        unfold mX12_join_J132
        rw [if_pos h0, put]
      · rw [e1, obe, if_neg (show ¬ (0 : Int32) ≤ m1 by decide), e2, obe]
        unfold mX12_join_J132
        rw [if_pos h0, put]
    rw [eC, obce, eK2]
    exact join_loop hGr (by omega) (9 * 200) f _ _ _ _ _ [] _ ar iw0 aw0 0 (nI r) (F + 1) F hG0 hC0 hR0 (by unfold pot; omega) (by unfold pot; omega) (nm3 r (by omega)) (by omega) (by omega)
  · refine Or.inr ⟨va_up (va_up iv 5 (nI f)) 4 (nI 0), ar, va_up iw0 3 (nI f), aw0, ?_, ?_, ⟨hC0.1.1, hC0.2.1⟩, ⟨va_up_self _ _ _, hR0.2.1⟩, ⟨fun _ _ _ => rfl, fun _ _ _ _ _ _ _ => rfl⟩, fR_t fr0 ⟨fun k a b c => va_up_ne _ _ a, fun _ _ => rfl⟩⟩
    · rw [eC, obce, mX0_join_L32, va_up_self, if_pos (show nI 0 ≤ 0 by decide)]
      unfold mX0_join_J219 mX3_cutTo
      rw [if_pos (show m3 = -3 from rfl), hC0.1.2.1, if_neg (nI_pos (by omega)), hC0.1.1, if_pos (nI_le (Nat.le_refl f) (by omega)), obce]
      rfl
    · rw [e1, obe, if_neg (show ¬ (0 : Int32) ≤ m1 by decide), e2, obe]
      unfold mX12_join_J132
      rw [if_neg (show ¬ (0 : Int32) ≤ m1 by decide), hR0.1.1, if_neg (show ¬ nI f < (200 : Int32) from nI_nlt (show 200 ≤ f by omega) (by omega))]
      rfl
  · refine Or.inl ⟨f, f + 1, va_up (fun _ => 0) f h, va_up (fun _ => 0) f a, va_up (fun _ => 0) f b, iv2, ar2, iw2, aw2, ⟨q1, fun k a b c d e q => q2 k a b d e q⟩, fR_t fr0 ⟨q3, q4⟩, by omega, Or.inr ⟨Nat.le_refl _, by omega, va_up_self _ _ _, va_up_self _ _ _, va_up_self _ _ _⟩, ?_⟩
    rw [e1, obe, if_neg (show ¬ (0 : Int32) ≤ m1 by decide), e2, obe]
    unfold mX12_join_J132
    rw [if_neg (show ¬ (0 : Int32) ≤ m1 by decide), hR0.1.1, if_pos (show nI f < (200 : Int32) from nI_lt hn (by decide)), eM, obe, put, eC, obce]
    by_cases k4 : jkind kd h a b < 4
    · simp only [if_pos k4] at hG2 hC2 hR2
      exact join_loop hGr (by omega) (9 * 200) (f + 1) _ _ _ _ _ [] iv2 ar2 iw2 aw2 0 (nI f) (F + 1) F hG2 hC2 hR2 (by unfold pot; omega) (by unfold pot; omega) (nm3 f (by omega)) (by omega) (by omega)
    · simp only [if_neg k4] at hG2 hC2 hR2
      have ep : pot (va_up (fun _ => 8) f 0) [f] = 9 := by
        rw [show ∀ p : Nat → Nat, pot p [f] = (9 - p f) + 0 from fun _ => rfl, va_up_self]
      refine join_loop hGr (by omega) (9 * 200) (f + 1) _ _ _ _ _ [f] iv2 ar2 iw2 aw2 0 (nI f) (F + 1) F hG2 hC2 ?_ (by rw [ep]; omega) (by rw [ep]; omega) (nm3 f (by omega)) (by omega) (by omega)
      unfold jasks
      rw [List.flatMap_cons, va_up_self]
      exact hR2
