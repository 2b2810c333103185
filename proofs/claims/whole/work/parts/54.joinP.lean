theorem join_loop {f : Nat} {kd lb : Nat → Nat} {pt : Nat → Nat → Nat} (hGr : Gr f kd lb pt) (hf : 0 < f) {la : mL} {pA pB : mA} {x : Int32} : ∀ (M n : Nat) (th ta tb P : Nat → Nat) (rs : Nat → Nat → Nat) (os : List Nat) (iv : mI) (ar : mA) (iw : mI) (aw : mA) (t : Nat) (y : Int32) (fu fr : Nat),
    jG f n kd lb pt th ta tb P rs os → jC f n kd lb pt th ta tb P P rs os iv ar → jR f n kd lb pt th ta tb P rs (jasks kd lb pt th ta tb P os) iw aw → 9 * (200 - n) + pot P os ≤ M → t + pot P os ≤ 9 * (n - f) → ¬ y = -3 → M < fu → M < fr →
    jEnd f n kd lb pt th ta tb x (mX0_join_L32 fu x y (nI t) iv ar la pA pB) (mX12_join_L28 fr (nI f) x iw aw) iv ar la pA pB iw aw := by
  intro M
  induction M with
  | zero =>
    intro n th ta tb P rs os iv ar iw aw t y fu fr hG hC hR hM ht hy hfu hfr
    cases os with
    | nil =>
      obtain ⟨fu, rfl⟩ : ∃ k, fu = k + 1 := ⟨fu - 1, by omega⟩
      obtain ⟨fr, rfl⟩ : ∃ k, fr = k + 1 := ⟨fr - 1, by omega⟩
      refine Or.inl ⟨n, th, ta, tb, P, rs, iv, ar, iw, aw, ?_, ?_, hG, hC, hR, Nat.le_refl _, fun _ _ => ⟨rfl, rfl, rfl⟩, ⟨fun _ _ _ => rfl, fun _ _ _ _ _ _ _ => rfl⟩, ⟨fun _ _ _ _ => rfl, fun _ _ => rfl⟩⟩
      · have c3 : iv 4 = nI 0 := hC.1.2.2
        rw [mX0_join_L32, c3, if_pos (show nI 0 ≤ 0 by decide)]
        unfold mX0_join_J219
        rw [if_neg hy]
      · have r3 : iw 17 = nI 0 := hR.1.2.2
        rw [mX12_join_L28, r3, if_pos (show nI 0 ≤ 0 by decide)]
    | cons o os =>
      have ho := (hG.2.2.2.1 o List.mem_cons_self)
      have := (hG.2.1 o ho.1 ho.2.1).2.2.2.2.1
      unfold pot at hM
      omega
  | succ M ih =>
    intro n th ta tb P rs os iv ar iw aw t y fu fr hG hC hR hM ht hy hfu hfr
    obtain ⟨fu, rfl⟩ : ∃ k, fu = k + 1 := ⟨fu - 1, by omega⟩
    obtain ⟨fr, rfl⟩ : ∃ k, fr = k + 1 := ⟨fr - 1, by omega⟩
    cases os with
    | nil =>
      refine Or.inl ⟨n, th, ta, tb, P, rs, iv, ar, iw, aw, ?_, ?_, hG, hC, hR, Nat.le_refl _, fun _ _ => ⟨rfl, rfl, rfl⟩, ⟨fun _ _ _ => rfl, fun _ _ _ _ _ _ _ => rfl⟩, ⟨fun _ _ _ _ => rfl, fun _ _ => rfl⟩⟩
      · have c3 : iv 4 = nI 0 := hC.1.2.2
        rw [mX0_join_L32, c3, if_pos (show nI 0 ≤ 0 by decide)]
        unfold mX0_join_J219
        rw [if_neg hy]
      · have r3 : iw 17 = nI 0 := hR.1.2.2
        rw [mX12_join_L28, r3, if_pos (show nI 0 ≤ 0 by decide)]
    | cons o os =>
      have g := hG
      obtain ⟨⟨g1, g2⟩, g3, g4, g5, g6, g7⟩ := g
      obtain ⟨o1, o2, o3⟩ := g5 o List.mem_cons_self
      obtain ⟨b1, b2, b3, -, b5, -⟩ := g3 o o1 o2
      have hno : o ∉ os := (List.nodup_cons.mp g6).1
      have hlen : (o :: os).length ≤ n - f := nodup_len (f := f) (n - f) _ g6 (fun m hm => by have := g5 m hm; omega)
      rw [List.length_cons] at hlen
      have hos : os.length < 200 := by omega
      have hpot : pot P (o :: os) = (9 - P o) + pot P os := rfl
      have ht2 : t < 1800 := by omega
      have hposC : ∀ p, pot (va_up P o p) os = pot P os := fun p => pot_congr os (fun m hm => va_up_ne _ _ (fun q => hno (by rw [← q]; exact hm)))
      by_cases h8 : P o = 8
      · obtain ⟨e1, hC2⟩ := c_turn8 (la := la) (pA := pA) (pB := pB) (x := x) hC hos h8 ht2 hy fu
        have easks : jasks kd lb pt th ta tb P (o :: os) = jasks kd lb pt th ta tb P os := by
          unfold jasks
          rw [List.flatMap_cons, h8, jal_8, List.nil_append]
        rw [easks] at hR
        rw [e1]
        refine jEnd_t (Nat.le_refl _) (fun _ _ => ⟨rfl, rfl, rfl⟩) ⟨fun k a b => va_up_ne _ _ b, fun _ _ _ _ _ _ _ => rfl⟩ ⟨fun _ _ _ _ => rfl, fun _ _ => rfl⟩ (ih n th ta tb P rs os _ ar iw aw (t + 1) y fu (fr + 1) ?_ hC2 hR (by omega) (by omega) hy (by omega) (by omega))
        refine ⟨⟨g1, g2⟩, g3, g4, fun m hm => g5 m (List.mem_cons_of_mem _ hm), (List.nodup_cons.mp g6).2, fun m h1 h2 hm => ?_⟩
        by_cases e : m = o
        · rw [e]; exact h8
        · exact g7 m h1 h2 (fun q => by rcases List.mem_cons.mp q with q | q; exact e q; exact hm q)
      · obtain ⟨l, hl, hP⟩ : ∃ l, l < 8 ∧ P o = l := ⟨P o, by omega, rfl⟩
        obtain ⟨hC1, tB, tL⟩ := c_turn (la := la) (pA := pA) (pB := pB) (x := x) hGr hG hC hos hl hP ht2 hy fu
        have f1 : fC iv ar iv (au ar 3 os.length (nI (l + 1))) := ⟨fun _ _ _ => rfl, fun k a b c d e q => by unfold au; exact va_up_ne _ _ q⟩
        have hL : jlab kd lb (th o) (ta o) (tb o) < 256 := jlab_lt (hGr _ b2).2.1 (hGr _ b3).2.1
        have easks : jasks kd lb pt th ta tb P (o :: os) = jal kd lb pt th ta tb o l ++ jasks kd lb pt th ta tb P os := by
          unfold jasks
          rw [List.flatMap_cons, hP]
        have easks2 : jasks kd lb pt th ta tb (va_up P o (l + 1)) (o :: os) = jal kd lb pt th ta tb o (l + 1) ++ jasks kd lb pt th ta tb P os := by
          have e := jasks_congr (kd := kd) (lb := lb) (pt := pt) (th := th) (ta := ta) (tb := tb) (P := P) (th2 := th) (ta2 := ta) (tb2 := tb) (P2 := va_up P o (l + 1)) os (fun m hm => ⟨rfl, rfl, rfl, va_up_ne _ _ (fun q => hno (by rw [← q]; exact hm))⟩)
          rw [← e]
          unfold jasks
          rw [List.flatMap_cons, va_up_self]
        have hpot2 : pot (va_up P o (l + 1)) (o :: os) = (9 - (l + 1)) + pot P os := by
          rw [show pot (va_up P o (l + 1)) (o :: os) = (9 - va_up P o (l + 1) o) + pot (va_up P o (l + 1)) os from rfl, va_up_self, hposC]
        by_cases hb : jboth lb (ta o) (tb o) l = true
        · skip
          rw [easks, jal_step hl, if_pos hb, List.cons_append, ← easks2] at hR
          have hqs := jasks_len (kd := kd) (lb := lb) (pt := pt) (th := th) (ta := ta) (tb := tb) (P := va_up P o (l + 1)) (o :: os)
          rw [List.length_cons] at hqs
          have hbb := hb
          unfold jboth at hbb
          rw [Bool.and_eq_true] at hbb
          have pa := (hGr _ b2).2.2.2.2 l hl hbb.1
          have pb := (hGr _ b3).2.2.2.2 l hl hbb.2
          have hsub : jsub kd (th o) (ta o) l < 2 := by
            unfold jsub
            split <;> omega
          have hbit := jlab_both hGr b1 b2 b3 o3 hb
          obtain ⟨hR1, eR⟩ := r_turn hR (by omega) (nI f) x fr
          rw [tB hb, eR]
          have fR1 : fR iw aw (va_up iw 17 (nI (jasks kd lb pt th ta tb (va_up P o (l + 1)) (o :: os)).length)) aw := ⟨fun k a b c => va_up_ne _ _ b, fun _ _ => rfl⟩
          rcases top_both (la := la) (pA := pA) (pB := pB) hGr hG hC1 hR1 hsub pa pb (by rw [List.length_cons]; omega) (by omega) with ⟨r, ⟨hr, hrs⟩, eC, eK⟩ | ⟨e1, e2, ⟨hn, eC⟩ | ⟨hn, iv2, ar2, iw2, aw2, eC, eM, q1, q2, q3, q4, hG2, hC2, hR2⟩⟩
          · rw [eC, obce, r_known (by omega) (by omega) hl (nI f) x fr eK]
            have etg : jtgt lb pt ta tb (rsU rs o l r) o l = r := by
              unfold jtgt rsU
              rw [if_pos hb, if_pos ⟨rfl, rfl⟩]
            obtain ⟨ar2, s1, s2, s3⟩ := c_set (r := r) (la := la) (pA := pA) (pB := pB) g2 hC1 o1 o2 hl hP hL hbit
            rw [etg] at s1
            unfold mX0_join_J193
            rw [if_neg (nI_pos (by omega)), s1, obce, show (1 : Int32) = nI 1 from rfl, nadd]
            refine jEnd_t (Nat.le_refl _) (fun _ _ => ⟨rfl, rfl, rfl⟩) (fC_t f1 ⟨fun _ _ _ => rfl, fun k a b c d e q => s2 k b c⟩) (fR_t fR1 ⟨fun _ _ _ _ => rfl, fun j hj => va_up_ne _ _ (by omega)⟩) (ih n th ta tb _ _ (o :: os) iv ar2 _ _ (t + 1) _ fu fr (jG_step hG List.mem_cons_self hl hP (fun _ => hrs)) s3 (jR_set hR1 o1 o2 hl hP hb) (by rw [hpot2]; omega) (by rw [hpot2]; omega) (fun q => ?_) (by omega) (by omega))
            have := nI_pos (show r < 2147483648 by omega)
            rw [q] at this
            exact this (by decide)
          · rw [eC, obce, r_none hR1.1.1 g2 (by omega) hl (nI f) x fr e1 e2, if_neg (by omega)]
            obtain ⟨fu, rfl⟩ : ∃ k, fu = k + 1 := ⟨fu - 1, by omega⟩
            unfold mX0_join_J193
            have c3 : iv 4 = nI (os.length + 1) := hC1.1.2.2
            rw [if_pos (show m3 < 0 by decide), mX0_join_L32, c3, if_neg (show ¬ nI (os.length + 1) ≤ 0 from nI_ge (show 0 < os.length + 1 by omega) (by omega)), if_pos (show m3 = -3 from rfl)]
            unfold mX0_join_J219 mX3_cutTo
            rw [if_pos (show m3 = -3 from rfl), hC1.1.2.1, if_neg (nI_pos (by omega)), hC1.1.1, if_neg (nI_ge (show f < n by omega) (by omega)), obce]
            exact Or.inr ⟨_, _, _, _, rfl, rfl, ⟨va_up_self _ _ _, hC1.2.1⟩, ⟨va_up_self _ _ _, hR1.2.1⟩, ⟨fun k a b => va_up_ne _ _ a, f1.2⟩, ⟨fun k a b c => by rw [va_up_ne _ _ a, va_up_ne _ _ b], fun _ _ => rfl⟩⟩
          · rw [eC, obce, r_none hR1.1.1 g2 (by omega) hl (nI f) x fr e1 e2, if_pos hn, eM, obe, r_put _ _ (by omega) hl]
            have hne : o ≠ n := by omega
            have fin : ∀ (X : Nat) (os2 : List Nat) (qs2 : List Ask), o ∈ os2 → jG f (n + 1) kd lb pt (va_up th n (jsub kd (th o) (ta o) l)) (va_up ta n (pt (ta o) l)) (va_up tb n (pt (tb o) l)) (va_up P n X) rs os2 → jC f (n + 1) kd lb pt (va_up th n (jsub kd (th o) (ta o) l)) (va_up ta n (pt (ta o) l)) (va_up tb n (pt (tb o) l)) (va_up P n X) (va_up (va_up P o (l + 1)) n X) rs os2 iv2 ar2 → jR f (n + 1) kd lb pt (va_up th n (jsub kd (th o) (ta o) l)) (va_up ta n (pt (ta o) l)) (va_up tb n (pt (tb o) l)) (va_up P n X) rs qs2 iw2 aw2 → jasks kd lb pt (va_up th n (jsub kd (th o) (ta o) l)) (va_up ta n (pt (ta o) l)) (va_up tb n (pt (tb o) l)) (va_up (va_up P o (l + 1)) n X) os2 = qs2 → pot (va_up (va_up P o (l + 1)) n X) os2 ≤ 9 + (9 - (l + 1)) + pot P os → jEnd f n kd lb pt th ta tb x (mX0_join_J193 (mX0_join_L32 fu) x (nI t) (nI o) (nI l) (nI n) iv2 ar2 la pA pB) (mX12_join_L28 fr (nI f) x iw2 (au aw2 6 (8 * o + l) (nI n))) iv ar la pA pB iw aw := by
              intro X os2 qs2 hmem hG3 hC3 hR3 hqq hpp
              have t1 : va_up th n (jsub kd (th o) (ta o) l) o = th o := va_up_ne _ _ hne
              have t2 : va_up ta n (pt (ta o) l) o = ta o := va_up_ne _ _ hne
              have t3 : va_up tb n (pt (tb o) l) o = tb o := va_up_ne _ _ hne
              have hP2 : va_up P n X o = l := by rw [va_up_ne _ _ hne]; exact hP
              obtain ⟨ar3, s1, s2, s3⟩ := c_set (r := n) (la := la) (pA := pA) (pB := pB) (show n + 1 ≤ 200 by omega) hC3 o1 (show o < n + 1 by omega) hl hP2 (by rw [t1, t2, t3]; exact hL) (by rw [t1, t2, t3]; exact hbit)
              have hb2 : jboth lb (va_up ta n (pt (ta o) l) o) (va_up tb n (pt (tb o) l) o) l = true := by rw [t2, t3]; exact hb
              have etg : jtgt lb pt (va_up ta n (pt (ta o) l)) (va_up tb n (pt (tb o) l)) (rsU rs o l n) o l = n := by
                unfold jtgt rsU
                rw [if_pos hb2, if_pos ⟨rfl, rfl⟩]
              rw [etg] at s1
              have hG4 := jG_step (r := n) hG3 hmem hl hP2 (fun _ => by rw [t1, t2, t3]; exact Or.inr ⟨by omega, by omega, va_up_self _ _ _, va_up_self _ _ _, va_up_self _ _ _⟩)
              have hR4 := jR_set (r := n) hR3 o1 (show o < n + 1 by omega) hl hP2 hb2
              rw [up_comm (Ne.symm hne)] at s3 hG4 hR4
              rw [← hqq] at hR4
              unfold mX0_join_J193
              rw [if_neg (nI_pos (by omega)), s1, obce, show (1 : Int32) = nI 1 from rfl, nadd]
              refine jEnd_t (Nat.le_succ n) (fun m hm => ⟨va_up_ne _ _ (by omega), va_up_ne _ _ (by omega), va_up_ne _ _ (by omega)⟩) (fC_t f1 (fC_t ⟨q1, fun k a b c d e q => q2 k a b d e q⟩ ⟨fun _ _ _ => rfl, fun k a b c d e q => s2 k b c⟩)) (fR_t fR1 (fR_t ⟨q3, q4⟩ ⟨fun _ _ _ _ => rfl, fun j hj => va_up_ne _ _ (by omega)⟩)) (ih (n + 1) _ _ _ _ _ os2 iv2 ar3 iw2 _ (t + 1) _ fu fr hG4 s3 hR4 (by omega) (by omega) (fun q => ?_) (by omega) (by omega))
              have := nI_pos (show n < 2147483648 by omega)
              rw [q] at this
              exact this (by decide)
            have hin : ∀ m, m ∈ o :: os → m ≠ n := fun m hm => by have := g5 m hm; omega
            have ec : ∀ X, jasks kd lb pt (va_up th n (jsub kd (th o) (ta o) l)) (va_up ta n (pt (ta o) l)) (va_up tb n (pt (tb o) l)) (va_up (va_up P o (l + 1)) n X) (o :: os) = jasks kd lb pt th ta tb (va_up P o (l + 1)) (o :: os) := fun X => jasks_congr (o :: os) (fun m hm => ⟨va_up_ne _ _ (hin m hm), va_up_ne _ _ (hin m hm), va_up_ne _ _ (hin m hm), va_up_ne _ _ (hin m hm)⟩)
            have ep : ∀ X, pot (va_up (va_up P o (l + 1)) n X) (o :: os) = (9 - (l + 1)) + pot P os := fun X => by
              rw [pot_congr (P := va_up P o (l + 1)) (o :: os) (fun m hm => va_up_ne _ _ (hin m hm)), hpot2]
            by_cases k4 : jkind kd (jsub kd (th o) (ta o) l) (pt (ta o) l) (pt (tb o) l) < 4
            · simp only [if_pos k4] at hG2 hC2 hR2
              exact fin 8 (o :: os) _ List.mem_cons_self hG2 hC2 hR2 (ec 8) (by rw [ep]; omega)
            · simp only [if_neg k4] at hG2 hC2 hR2
              refine fin 0 (n :: o :: os) _ (List.mem_cons_of_mem _ List.mem_cons_self) hG2 hC2 hR2 ?_ ?_
              · rw [← ec 0]
                unfold jasks
                rw [List.flatMap_cons, va_up_self]
              · rw [show ∀ p : Nat → Nat, pot p (n :: o :: os) = (9 - p n) + pot p (o :: os) from fun _ => rfl, ep, va_up_self]
                omega
        · have hb : jboth lb (ta o) (tb o) l = false := by simpa using hb
          rw [tL hb]
          rw [easks, jal_step hl, if_neg (by rw [hb]; decide), ← easks2] at hR
          have hR2 := jR_skip (r := 0) hR hP hb
          have hG2 := jG_step (r := 0) hG List.mem_cons_self hl hP (fun q => by rw [hb] at q; cases q)
          unfold mX0_join_J193
          rw [show (1 : Int32) = nI 1 from rfl, nadd]
          by_cases hbit : (jlab kd lb (th o) (ta o) (tb o)).testBit l = true
          · have etg : jtgt lb pt ta tb (rsU rs o l 0) o l = jtgt lb pt ta tb rs o l := by
              unfold jtgt
              rw [hb]
              rfl
            obtain ⟨ar2, s1, s2, s3⟩ := c_set (r := 0) (la := la) (pA := pA) (pB := pB) g2 hC1 o1 o2 hl hP hL hbit
            rw [etg] at s1
            have htl : jtgt lb pt ta tb rs o l < 2147483648 := by
              have := jlab_or hGr b1 b2 b3 hbit
              unfold jtgt
              rw [hb]
              rw [if_neg (by decide)]
              by_cases q : (lb (ta o)).testBit l = true
              · rw [if_pos q]
                have := (hGr _ b2).2.2.2.2 l hl q
                omega
              · rw [if_neg q]
                have := (hGr _ b3).2.2.2.2 l hl (this.resolve_left q)
                omega
            rw [if_pos hbit, if_neg (nI_pos htl), s1, obce]
            refine jEnd_t (Nat.le_refl _) (fun _ _ => ⟨rfl, rfl, rfl⟩) (fC_t f1 ⟨fun _ _ _ => rfl, fun k a b c d e q => s2 k b c⟩) ⟨fun _ _ _ _ => rfl, fun _ _ => rfl⟩ (ih n th ta tb _ _ (o :: os) iv ar2 iw aw (t + 1) _ fu (fr + 1) hG2 s3 hR2 (by rw [hpot2]; omega) (by rw [hpot2]; omega) (fun q => ?_) (by omega) (by omega))
            have := nI_pos htl
            rw [q] at this
            exact this (by decide)
          · have hbit2 : (jlab kd lb (th o) (ta o) (tb o)).testBit l = false := by simpa using hbit
            have s3 := c_skip (r := 0) hC1 hl hP hbit2
            rw [if_neg hbit, if_pos (show m1 < 0 by decide)]
            exact jEnd_t (Nat.le_refl _) (fun _ _ => ⟨rfl, rfl, rfl⟩) f1 ⟨fun _ _ _ _ => rfl, fun _ _ => rfl⟩ (ih n th ta tb _ _ (o :: os) iv _ iw aw (t + 1) _ fu (fr + 1) hG2 s3 hR2 (by rw [hpot2]; omega) (by rw [hpot2]; omega) (by decide) (by omega) (by omega))
