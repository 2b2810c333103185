theorem okF_lt {f0 g : Nat} {kd lb lr : Nat → Nat} : ∀ (fs : List (Nat × Nat × Nat × Nat)) (t : Prop), okF f0 g kd lb lr t fs → ∀ f, f ∈ fs → f.1 = 0 → f.2.1 < g
  | [], _, _, f, hf, _ => by cases hf
  | (0, x, lf, l) :: fs, t, ⟨⟨h1, _⟩, h7⟩, f, hf, h0 => by
    rcases List.mem_cons.mp hf with rfl | hf
    · exact h1
    · exact okF_lt fs False h7 f hf h0
  | (v + 1, x, lf, l) :: fs, t, ⟨_, h7⟩, f, hf, h0 => by
    rcases List.mem_cons.mp hf with rfl | hf
    · exact absurd h0 (Nat.succ_ne_zero v)
    · exact okF_lt fs t h7 f hf h0
/-- a node more -/
theorem node_made {f0 g n p : Nat} {kd lb lr : Nat → Nat} {pt : Nat → Nat → Nat} {fs : List (Nat × Nat × Nat × Nat)} {iv : mI} {ar : mA} {iw : mI} {aw : mA} {la : mL} {pA pB : mA} (h : mst f0 g n p kd lb lr pt True m1 fs iv ar iw aw) (hg : g < f0 + p) {K : Nat} (hK : K ≤ 6) :
    ∃ (ivN : mI) (arN : mA) (iwN : mI) (awN : mA), mX3_draft (nI K) iv ar la pA pB = some (nI g, ivN, arN, la, pA, pB) ∧ (∀ Q : Int32 → mI → mA → Option (Int32 × mI × mA), ob (mX12_newNode (nI K) 0 iw aw) (fun r91 iv91 ar91 => ob (mX12_resolve r91 iv91 ar91) (fun _ iv97 ar97 => Q r91 iv97 ar97)) = Q (nI g) iwN awN) ∧ fT f0 iv ar ivN arN ∧ fU f0 iw aw iwN awN ∧ rd n p ivN arN iwN awN ∧ okF f0 (g + 1) (va_up kd g K) (va_up lb g 0) (va_up lr g (if K = 4 then 3 else 0)) False fs ∧ (stC arN fs ∧ stR (g + 1) m1 awN fs ∧ ivN 906 = nI fs.length ∧ iwN 29 = nI fs.length) ∧ (ivN 804 = m1 ∧ ivN 805 = m1 ∧ iwN 2 = m1) ∧
      (∀ fs2 : List (Nat × Nat × Nat × Nat), (∀ k, k ≠ g → (∀ f, f ∈ fs2 → f.1 = 0 → f.2.1 ≠ k) → (∀ f, f ∈ fs → f.1 = 0 → f.2.1 ≠ k)) → (K = 4 → ∃ f, f ∈ fs2 ∧ f.1 = 0 ∧ f.2.1 = g) → pg f0 (g + 1) (va_up kd g K) (va_up lb g 0) (va_up lr g (if K = 4 then 3 else 0)) pt fs2 ivN arN iwN awN) := by
  obtain ⟨hrd, hok, hpg, ⟨hc, hr, o1, o2⟩, ⟨b1, b2, b3⟩, z1, z2, z3⟩ := h
  have hp2 : p ≤ 200 := Nat.le_trans hrd.2.1 hrd.1
  have hfg := hpg.2.2.1
  obtain ⟨F, hF, hFF⟩ : ∃ F, bigF = F + 1 ∧ 5000 < F := ⟨999999, rfl, by omega⟩
  obtain ⟨aw2, w1, w2, w3, w4, w5, w6⟩ := r_newNode (n := g) (iw := iw) (aw := aw) (by omega) hpg.2.1 (b := 0) hK
  have hr1 : stR g m1 aw2 fs := by
    refine stR_keep2 fs (fun i hi => ?_) hr
    rw [w2 _ (by decide) (by decide) (by decide), w2 _ (by decide) (by decide) (by decide), w2 _ (by decide) (by decide) (by decide), w2 _ (by decide) (by decide) (by decide)]
    exact ⟨rfl, rfl, rfl, rfl⟩
  obtain ⟨aw3, u1, u2, u3, u4⟩ := resolve_loop (v := nI g) (iw := va_up iw 3 (nI (g + 1))) fs aw2 bigF (by omega) (by omega) hok hr1
  refine ⟨va_up iv 303 (nI (g + 1)), au (au ar 300 g (nI K)) 301 g (nI 0), va_up iw 3 (nI (g + 1)), aw3, ?_, fun Q => ?_, ⟨fun k a b c d e f => va_up_ne _ _ a, fun k a b c d e f g => by rw [au_ne _ b, au_ne _ a], fun k hk => ?_, fun i hi => by rw [au_ne _ (by decide), au_ne _ (by decide)]⟩, ⟨fun k a b c d e => va_up_ne _ _ a, fun k a b c d e f g => ?_, fun k hk => ?_, fun i hi => ?_⟩, ?_, ?_, ⟨?_, stR_up fs True hok u2, ?_, ?_⟩, ⟨z1, z2, z3⟩, fun fs2 i1 i2 => ?_⟩
  · unfold mX3_draft
    rw [hpg.1, if_pos (show nI g < (400 : Int32) from nI_lt (show g < 400 by omega) (by decide)), if_neg (by first | exact nI_in (by omega) (by omega) | exact nI_inn (by omega) (by omega)), if_neg (by first | exact nI_in (by omega) (by omega) | exact nI_inn (by omega) (by omega)), ncl (by omega), show (1 : Int32) = nI 1 from rfl, nadd, va_up_self, nsub (by omega), Nat.add_sub_cancel]
    rfl
  · rw [show (0 : Int32) = nI 0 from rfl, w1, obe]
    unfold mX12_resolve
    rw [show (va_up iw 3 (nI (g + 1))) 29 = nI fs.length from o2, u1, obe]
  · simp only [aur, reduceIte, show ¬ k = g by omega]
    exact ⟨rfl, rfl⟩
  · rw [u3 k d, w2 k a b c]
  · rw [u3 _ (by decide), u3 _ (by decide)]
    exact w3 k (by omega)
  · rw [u3 _ (by decide)]
    exact w6 i (by omega)
  · refine rd_next hrd hrd.2.1 rfl rfl hrd.2.2.2.2.1 hrd.2.2.2.2.2.1 rfl ?_ ?_
    · rw [au_ne _ (by decide), au_ne _ (by decide)]
    · rw [u3 _ (by decide), w2 _ (by decide) (by decide) (by decide)]
  · refine okF_congr fs False (fun f hf h0 => ?_) (okF_up fs True hok)
    have := okF_lt fs True hok f hf h0
    exact ⟨va_up_ne _ _ (by omega), va_up_ne _ _ (by omega), va_up_ne _ _ (by omega)⟩
  · refine stC_keep2 fs (fun i hi => ?_) hc
    exact ⟨rfl, rfl, rfl, rfl⟩
  · exact o1
  · exact o2
  · refine pg_new hpg hK rfl rfl (fun k hk => ?_) ?_ ?_ ?_ (fun k hk => ?_) ?_ ?_ (fun i hi => ?_) i1 i2
    · simp only [aur, reduceIte, hk]
      exact ⟨rfl, rfl⟩
    · first | rfl | (simp only [aur, reduceIte]; rfl) | (simp [aur]; done)
    · first | rfl | (simp only [aur, reduceIte]; rfl) | (simp [aur]; done)
    · rw [au_ne _ (by decide), au_ne _ (by decide)]
    · rw [u3 _ (by decide), u3 _ (by decide)]
      exact w3 k hk
    · rw [u3 _ (by decide)]
      exact w4
    · rw [u3 _ (by decide)]
      exact w5
    · rw [u3 _ (by decide)]
      exact w6 i (by omega)
/-- a node with parts is put upon what is open -/
theorem push_turn {f0 g n p : Nat} {kd lb lr : Nat → Nat} {pt : Nat → Nat → Nat} {fs : List (Nat × Nat × Nat × Nat)} {iv : mI} {ar : mA} {iw : mI} {aw : mA} {la : mL} {pA pB : mA} {y c : Nat} (hrd : rd n p iv ar iw aw) (hl : lst f0 g kd lb lr y c 0 fs) (hpg : pg f0 g kd lb lr pt ((0, y, c, 0) :: fs) iv ar iw aw) (hc : stC ar fs) (hr : stR g m1 aw fs) (o1 : iv 906 = nI fs.length) (o2 : iw 29 = nI fs.length) (b1 : fs.length < p) (b2 : f0 ≤ 200) (b3 : g ≤ f0 + p) (z1 : iv 804 = m1) (z2 : iv 805 = m1) (z3 : iw 2 = m1) {q : Nat} (hq : q < p) {l2 : Int32} {S : Int32 → mI → mA → Option (Int32 × mI × mA)} :
    tOut f0 n q iv ar la pA pB iw aw (obc (mX9_push (nI y) (-1) (nI c) iv ar la pA pB) (fun _ iv70 ar70 la70 pA70 pB70 => some (1, iv70, ar70, la70, pA70, pB70))) (fun K => ob (ob (mX12_pushFrame (nI y) (-1) (nI c) iw aw) (fun _ iv144 ar144 => ob (mX12_takeLabel iv144 ar144) (fun _ iv148 ar148 => some ((-1), iv148, ar148)))) (fun r41 iv41 ar41 => if r41 < 0 then K l2 iv41 ar41 else if (iv41 24) = 0 then ob (S r41 iv41 ar41) (fun r61 iv61 ar61 => K r61 iv61 ar61) else K l2 iv41 ar41)) := by
  have hp2 : p ≤ 200 := Nat.le_trans hrd.2.1 hrd.1
  have eC : mX9_push (nI y) (-1) (nI c) iv ar la pA pB = some (0, va_up iv 906 (nI (fs.length + 1)), au (au (au (au ar 902 fs.length (nI y)) 903 fs.length (-1)) 904 fs.length (nI c)) 905 fs.length (-1), la, pA, pB) := by
    unfold mX9_push
    rw [o1, if_neg (show ¬ (200 : Int32) ≤ nI fs.length from nI_ge (show fs.length < 200 by omega) (by decide)), if_neg (by first | exact nI_in (by omega) (by omega) | exact nI_inn (by omega) (by omega)), if_neg (by first | exact nI_in (by omega) (by omega) | exact nI_inn (by omega) (by omega)), if_neg (by first | exact nI_in (by omega) (by omega) | exact nI_inn (by omega) (by omega)), if_neg (by first | exact nI_in (by omega) (by omega) | exact nI_inn (by omega) (by omega)), ncl (by omega), show nI fs.length + 1 = nI (fs.length + 1) from nadd _ 1]
  have eR : mX12_pushFrame (nI y) (-1) (nI c) iw aw = some (0, va_up iw 29 (nI (fs.length + 1)), au (au (au (au aw 25 fs.length (nI y)) 26 fs.length (-1)) 27 fs.length (nI c)) 28 fs.length (-1)) := by
    unfold mX12_pushFrame
    rw [o2, if_neg (by first | exact nI_in (by omega) (by omega) | exact nI_inn (by omega) (by omega)), if_neg (by first | exact nI_in (by omega) (by omega) | exact nI_inn (by omega) (by omega)), if_neg (by first | exact nI_in (by omega) (by omega) | exact nI_inn (by omega) (by omega)), if_neg (by first | exact nI_in (by omega) (by omega) | exact nI_inn (by omega) (by omega)), ncl (by omega), show nI fs.length + 1 = nI (fs.length + 1) from nadd _ 1]
  have fC1 : fT f0 iv ar (va_up iv 906 (nI (fs.length + 1))) (au (au (au (au ar 902 fs.length (nI y)) 903 fs.length (-1)) 904 fs.length (nI c)) 905 fs.length (-1)) := ⟨fun k a b c d e f => va_up_ne _ _ f, fun k a b c d e f g => by rw [au_ne _ g, au_ne _ f, au_ne _ e, au_ne _ d], fun k hk => ⟨rfl, rfl⟩, fun i hi => rfl⟩
  have fR1 : fU f0 iw aw (va_up iw 29 (nI (fs.length + 1))) (au (au (au (au aw 25 fs.length (nI y)) 26 fs.length (-1)) 27 fs.length (nI c)) 28 fs.length (-1)) := ⟨fun k a b c d e => va_up_ne _ _ e, fun k a b c d e f g => by rw [au_ne _ g, au_ne _ f, au_ne _ e, au_ne _ d], fun k hk => ⟨rfl, rfl⟩, fun i hi => rfl⟩
  have hlw : lws f0 g n p kd lb lr pt y c 0 fs (va_up iv 906 (nI (fs.length + 1))) (au (au (au (au ar 902 fs.length (nI y)) 903 fs.length (-1)) 904 fs.length (nI c)) 905 fs.length (-1)) (va_up iw 29 (nI (fs.length + 1))) (au (au (au (au aw 25 fs.length (nI y)) 26 fs.length (-1)) 27 fs.length (nI c)) 28 fs.length (-1)) := by
    refine ⟨rd_next hrd hrd.2.1 rfl rfl hrd.2.2.2.2.1 hrd.2.2.2.2.2.1 rfl (by rw [au_ne _ (by decide), au_ne _ (by decide), au_ne _ (by decide), au_ne _ (by decide)]) (by rw [au_ne _ (by decide), au_ne _ (by decide), au_ne _ (by decide), au_ne _ (by decide)]), hl, ⟨hpg.1, hpg.2.1, hpg.2.2.1, fun k hk => ?_⟩, ⟨⟨⟨?_, ?_, ?_, ?_⟩, ?_⟩, ⟨⟨?_, ?_, fun _ => ⟨?_, ?_⟩⟩, ?_⟩, rfl, rfl⟩, ⟨b1, b2, b3⟩, z1, z2, z3⟩
    · exact hpg.2.2.2 k hk
    · first | rfl | (simp only [aur, reduceIte]; rfl) | (simp [aur]; done)
    · first | rfl | (simp only [aur, reduceIte]; rfl) | (simp [aur]; done)
    · first | rfl | (simp only [aur, reduceIte]; rfl) | (simp [aur]; done)
    · first | rfl | (simp only [aur, reduceIte]; rfl) | (simp [aur]; done)
    · refine stC_keep2 fs (fun i hi => ?_) hc
      refine ⟨?_, ?_, ?_, ?_⟩ <;> first | rfl | exact au_ni _ (by omega) | (simp [aur, show ¬ i = fs.length by omega]; done)
    · rw [if_pos hl.1.1]
      first | rfl | (simp only [aur, reduceIte]; rfl) | (simp [aur]; done)
    · first | rfl | (simp only [aur, reduceIte]; rfl) | (simp [aur]; done)
    · first | rfl | (simp only [aur, reduceIte]; rfl) | (simp [aur]; done)
    · first | rfl | (simp only [aur, reduceIte]; rfl) | (simp [aur]; done)
    · refine stR_keep2 fs (fun i hi => ?_) hr
      refine ⟨?_, ?_, ?_, ?_⟩ <;> first | rfl | exact au_ni _ (by omega) | (simp [aur, show ¬ i = fs.length by omega]; done)
  obtain ⟨iv3, ar3, iw3, aw3, t1, t2, t3, t4⟩ := label_both (la := la) (pA := pA) (pB := pB) hlw
  refine Or.inr (Or.inr ⟨l2, fs.length, _, _, iv3, ar3, iw3, aw3, by rw [eC]; rfl, ⟨by omega, Nat.lt_of_lt_of_le hq hrd.2.1⟩, rfl, fun K => ?_, fT_t fC1 t2, fU_t fR1 t3, ?_⟩)
  · dsimp only
    rw [eR, obe, t1, obe, obe, if_pos (show (-1 : Int32) < 0 by decide)]
  · rcases t4 with t4 | ⟨t4, p2, l3, lr2, t5, t6⟩
    · exact Or.inl t4
    · exact Or.inr ⟨t4, g, p2, kd, lb, lr2, pt, _, _, by omega, t6⟩
