theorem stkR_keep {aw aw2 : mA} : ∀ (qs : List Ask), (∀ j, 12 ≤ j → j ≤ 16 → aw2 j = aw j) → stkR aw qs → stkR aw2 qs
  | [], _, _ => trivial
  | q :: qs, h, ⟨a1, a2, a3, a4, a5, a6⟩ => ⟨by rw [h 12 (by decide) (by decide)]; exact a1, by rw [h 13 (by decide) (by decide)]; exact a2, by rw [h 14 (by decide) (by decide)]; exact a3, by rw [h 15 (by decide) (by decide)]; exact a4, by rw [h 16 (by decide) (by decide)]; exact a5, stkR_keep qs h a6⟩
def jalU (kd lb : Nat → Nat) (pt : Nat → Nat → Nat) (h a b n all c : Nat) : List Ask := ((List.range c).filter (fun l => all.testBit l && jboth lb a b l)).map (fun l => (jsub kd h a l, pt a l, pt b l, n, l))
theorem jalU_s {kd lb : Nat → Nat} {pt : Nat → Nat → Nat} {h a b n all c : Nat} : jalU kd lb pt h a b n all (c + 1) = jalU kd lb pt h a b n all c ++ (if (all.testBit c && jboth lb a b c) = true then [(jsub kd h a c, pt a c, pt b c, n, c)] else []) := by
  unfold jalU
  rw [List.range_succ, List.filter_append, List.map_append]
  congr 1
  by_cases e : (all.testBit c && jboth lb a b c) = true
  · simp only [e, if_true, List.filter_cons, List.filter_nil, List.map_cons, List.map_nil]
  · simp only [e, if_false, List.filter_cons, List.filter_nil, List.map_nil]
    rfl
/-- the labels of a node more of the reference, from the highest down -/
theorem make_loop {f n : Nat} {kd lb : Nat → Nat} {pt : Nat → Nat → Nat} (hf : f ≤ n) (hn : n < 200) (hlb : ∀ k, k < f → lb k < 256) {h a b K all : Nat} (hh : h < 2) (ha : a < f) (hb : b < f) (hK : all ≠ 0 → K = kd a) (hK6 : K ≤ 6) (hall : all < 256) (hor : ∀ l, l < 8 → all.testBit l = true → (lb a).testBit l = true ∨ (lb b).testBit l = true) :
    ∀ (fu c : Nat) (qs : List Ask) (iw : mI) (aw : mA), c ≤ 8 → c < fu → qs.length + c < 4000 → iw 17 = nI qs.length → stkR aw qs → (∀ k, k < f → aw 5 k = nI (lb k) ∧ ∀ l, l < 8 → (lb k).testBit l = true → aw 6 (8 * k + l) = nI (pt k l)) →
    ∃ (iw2 : mI) (aw2 : mA), mX12_make_L207 fu (nI h) (nI a) (nI b) (nI K) (nI n) (nI all) (jL10 c) iw aw = some (nI n, iw2, aw2) ∧ (∀ k, k ≠ 17 → iw2 k = iw k) ∧ iw2 17 = nI (jalU kd lb pt h a b n all c ++ qs).length ∧ stkR aw2 (jalU kd lb pt h a b n all c ++ qs) ∧ (∀ j, j ≠ 6 → j < 12 ∨ 16 < j → aw2 j = aw j) ∧ (∀ p, (p < 8 * n ∨ 8 * n + c ≤ p) → aw2 6 p = aw 6 p) ∧ (∀ l, l < c → all.testBit l = true → jboth lb a b l = false → aw2 6 (8 * n + l) = nI (if (lb a).testBit l = true then pt a l else pt b l)) := by
  intro fu
  induction fu with
  | zero => intro c qs iw aw h1 h2; omega
  | succ fu ih =>
    intro c qs iw aw h1 h2 h3 h17 hs hold
    unfold mX12_make_L207
    by_cases hc : c = 0
    · subst hc
      refine ⟨iw, aw, ?_, fun _ _ => rfl, h17, hs, fun _ _ _ => rfl, fun _ _ => rfl, fun l hl => absurd hl (Nat.not_lt_zero l)⟩
      rw [if_pos (show jL10 0 < 0 by decide)]
    · obtain ⟨c, rfl⟩ : ∃ d, c = d + 1 := ⟨c - 1, by omega⟩
      have hc8 : c < 8 := by omega
      rw [jL10_s, if_neg (nI_pos (by omega))]
      obtain ⟨oa, pa⟩ := hold a ha
      obtain ⟨ob_, pb⟩ := hold b hb
      have la := hlb a ha
      have lb1 := hlb b hb
      have ia : ¬ (nI a < 0 ∨ 400 ≤ (nI a).toNatClampNeg) := nI_in (by omega) (by omega)
      have ib : ¬ (nI b < 0 ∨ 400 ≤ (nI b).toNatClampNeg) := nI_in (by omega) (by omega)
      have na : (nI a).toNatClampNeg = a := ncl (by omega)
      have nb : (nI b).toNatClampNeg = b := ncl (by omega)
      have nxt : nI c + (-1) = jL10 c := rfl
      have en : (8 * nI n + nI c : Int32) = nI (8 * n + c) := by rw [show (8 : Int32) = nI 8 from rfl, nmul, nadd]
      have hpartA : (lb a).testBit c = true → mX12_part (nI a) (nI c) iw aw = some (nI (pt a c), iw, aw) := fun q => by
        unfold mX12_part
        rw [show (8 * nI a + nI c : Int32) = nI (8 * a + c) by rw [show (8 : Int32) = nI 8 from rfl, nmul, nadd], if_neg (nI_in (by omega) (by omega)), ncl (by omega), pa c hc8 q]
      have hpartB : ∀ iw', (lb b).testBit c = true → mX12_part (nI b) (nI c) iw' aw = some (nI (pt b c), iw', aw) := fun iw' q => by
        unfold mX12_part
        rw [show (8 * nI b + nI c : Int32) = nI (8 * b + c) by rw [show (8 : Int32) = nI 8 from rfl, nmul, nadd], if_neg (nI_in (by omega) (by omega)), ncl (by omega), pb c hc8 q]
      by_cases hA : all.testBit c = true
      · rw [if_pos (by rw [bit_get hall hc8]; exact hA)]
        unfold mX12_make_J228
        rw [if_neg (by decide), if_neg ia, na, oa]
        -- the case of a part that one has alone
        have lone : ∀ (x : Nat), x = (if (lb a).testBit c = true then pt a c else pt b c) → jboth lb a b c = false → ∃ (iw2 : mI) (aw2 : mA), mX12_make_L207 fu (nI h) (nI a) (nI b) (nI K) (nI n) (nI all) (nI c + (-1)) iw (au aw 6 (8 * n + c) (nI x)) = some (nI n, iw2, aw2) ∧ (∀ k, k ≠ 17 → iw2 k = iw k) ∧ iw2 17 = nI (jalU kd lb pt h a b n all (c + 1) ++ qs).length ∧ stkR aw2 (jalU kd lb pt h a b n all (c + 1) ++ qs) ∧ (∀ j, j ≠ 6 → j < 12 ∨ 16 < j → aw2 j = aw j) ∧ (∀ p, (p < 8 * n ∨ 8 * n + (c + 1) ≤ p) → aw2 6 p = aw 6 p) ∧ (∀ l, l < c + 1 → all.testBit l = true → jboth lb a b l = false → aw2 6 (8 * n + l) = nI (if (lb a).testBit l = true then pt a l else pt b l)) := by
          intro x hx hnb
          have ko : ∀ j, j ≠ 6 → au aw 6 (8 * n + c) (nI x) j = aw j := fun j hj => by unfold au; rw [va_up_ne _ _ hj]
          have k6 : ∀ p, au aw 6 (8 * n + c) (nI x) 6 p = if p = 8 * n + c then nI x else aw 6 p := fun p => by simp [aur]
          obtain ⟨iw2, aw2, r1, r2, r3, r4, r5, r6, r7⟩ := ih c qs iw (au aw 6 (8 * n + c) (nI x)) (by omega) (by omega) (by omega) h17 (stkR_keep qs (fun j _ _ => ko j (by omega)) hs) (fun k hk => ⟨by rw [ko 5 (by decide)]; exact (hold k hk).1, fun l hl q => by rw [k6, if_neg (by omega)]; exact (hold k hk).2 l hl q⟩)
          have eU : jalU kd lb pt h a b n all (c + 1) = jalU kd lb pt h a b n all c := by rw [jalU_s, hnb, Bool.and_false]; simp
          refine ⟨iw2, aw2, r1, r2, by rw [eU]; exact r3, by rw [eU]; exact r4, fun j j1 j2 => (r5 j j1 j2).trans (ko j j1), fun p hp => ?_, fun l hl q1 q2 => ?_⟩
          · rw [r6 p (by omega), k6, if_neg (by omega)]
          · by_cases e : l = c
            · subst e
              rw [r6 _ (by omega), k6, if_pos rfl, hx]
            · exact r7 l (by omega) q1 q2
        by_cases hAa : (lb a).testBit c = true
        · rw [if_pos (by rw [bit_get la hc8]; exact hAa)]
          unfold mX12_make_J255
          rw [if_neg (by decide), if_neg ib, nb, ob_]
          by_cases hBb : (lb b).testBit c = true
          · rw [if_pos (by rw [bit_get lb1 hc8]; exact hBb)]
            unfold mX12_make_J282
            rw [if_neg (by decide), if_neg (by decide)]
            have hne : all ≠ 0 := fun e => by rw [e, Nat.zero_testBit] at hA; cases hA
            have hKa := hK hne
            have hboth : jboth lb a b c = true := by unfold jboth; rw [hAa, hBb]; rfl
            obtain ⟨aw3, s1, s2, s3⟩ := r_ask (iw := iw) (aw := aw) (qs := qs) (by omega) h17 hs (jsub kd h a c, pt a c, pt b c, n, c)
            have go : mX12_make_J313 (mX12_make_L207 fu) (nI h) (nI a) (nI b) (nI K) (nI n) (nI all) (nI c) (nI (jsub kd h a c)) iw aw = mX12_make_L207 fu (nI h) (nI a) (nI b) (nI K) (nI n) (nI all) (jL10 c) (va_up iw 17 (nI (qs.length + 1))) aw3 := by
              unfold mX12_make_J313
              rw [hpartA hAa, obe, hpartB iw hBb, obe, s1, obe, nxt]
            have sel : (if nI K = 4 then (if nI c = 0 then mX12_make_J313 (mX12_make_L207 fu) (nI h) (nI a) (nI b) (nI K) (nI n) (nI all) (nI c) (1 - nI h) iw aw else mX12_make_J313 (mX12_make_L207 fu) (nI h) (nI a) (nI b) (nI K) (nI n) (nI all) (nI c) (nI h) iw aw) else mX12_make_J313 (mX12_make_L207 fu) (nI h) (nI a) (nI b) (nI K) (nI n) (nI all) (nI c) (nI h) iw aw) = mX12_make_J313 (mX12_make_L207 fu) (nI h) (nI a) (nI b) (nI K) (nI n) (nI all) (nI c) (nI (jsub kd h a c)) iw aw := by
              unfold jsub
              rw [hKa]
              by_cases e4 : kd a = 4
              · rw [if_pos (show nI (kd a) = 4 by rw [e4]; rfl)]
                by_cases ec : c = 0
                · subst ec
                  rw [if_pos (show nI 0 = 0 from rfl), if_pos ⟨e4, rfl⟩, show (1 : Int32) = nI 1 from rfl, nsub (by omega)]
                · rw [if_neg (show ¬ nI c = 0 by rw [show (0 : Int32) = nI 0 from rfl, neq (by omega) (by omega)]; exact ec), if_neg (fun z => ec z.2)]
              · rw [if_neg (show ¬ nI (kd a) = 4 by rw [show (4 : Int32) = nI 4 from rfl, neq (by omega) (by omega)]; exact e4), if_neg (fun z => e4 z.1)]
            rw [sel, go]
            obtain ⟨iw2, aw2, r1, r2, r3, r4, r5, r6, r7⟩ := ih c ((jsub kd h a c, pt a c, pt b c, n, c) :: qs) (va_up iw 17 (nI (qs.length + 1))) aw3 (by omega) (by omega) (by simp; omega) (va_up_self _ _ _) s3 (fun k hk => by rw [s2 5 (by decide), s2 6 (by decide)]; exact hold k hk)
            have eU : jalU kd lb pt h a b n all (c + 1) ++ qs = jalU kd lb pt h a b n all c ++ ((jsub kd h a c, pt a c, pt b c, n, c) :: qs) := by
              rw [jalU_s, hA, hboth]
              simp
            refine ⟨iw2, aw2, r1, fun k hk => (r2 k hk).trans (va_up_ne _ _ hk), by rw [eU]; exact r3, by rw [eU]; exact r4, fun j j1 j2 => (r5 j j1 j2).trans (s2 j j2), fun p hp => ?_, fun l hl q1 q2 => ?_⟩
            · rw [r6 p (by omega), s2 6 (by decide)]
            · by_cases e : l = c
              · subst e
                rw [hboth] at q2
                cases q2
              · exact r7 l (by omega) q1 q2
          · rw [if_neg (by rw [bit_get lb1 hc8]; exact hBb)]
            unfold mX12_make_J282
            rw [if_neg (by decide), if_pos rfl]
            unfold mX12_make_J337
            rw [if_neg (by decide), if_neg (by decide), hpartA hAa, obe, en, if_neg (nI_in (by omega) (by omega)), ncl (by omega)]
            exact lone (pt a c) (by rw [if_pos hAa]) (by unfold jboth; cases hq : (lb b).testBit c with
              | true => exact absurd hq hBb
              | false => rw [Bool.and_false])
        · rw [if_neg (by rw [bit_get la hc8]; exact hAa)]
          have hBb : (lb b).testBit c = true := (hor c hc8 hA).resolve_left hAa
          unfold mX12_make_J255
          rw [if_neg (by decide), if_neg ib, nb, ob_, if_pos (by rw [bit_get lb1 hc8]; exact hBb)]
          unfold mX12_make_J282
          rw [if_pos rfl]
          unfold mX12_make_J337
          rw [if_neg (by decide), if_pos rfl, hpartB iw hBb, obe, en, if_neg (nI_in (by omega) (by omega)), ncl (by omega)]
          exact lone (pt b c) (by rw [if_neg hAa]) (by unfold jboth; cases hq : (lb a).testBit c with
            | true => exact absurd hq hAa
            | false => rw [Bool.false_and])
      · rw [if_neg (by rw [bit_get hall hc8]; exact hA)]
        have e0 : mX12_make_J228 (mX12_make_L207 fu) (nI h) (nI a) (nI b) (nI K) (nI n) (nI all) (nI c) 0 iw aw = mX12_make_L207 fu (nI h) (nI a) (nI b) (nI K) (nI n) (nI all) (jL10 c) iw aw := by
          unfold mX12_make_J228 mX12_make_J255 mX12_make_J282 mX12_make_J337
          rw [if_pos rfl, if_pos rfl, if_pos rfl, if_pos rfl, nxt]
        rw [e0]
        obtain ⟨iw2, aw2, r1, r2, r3, r4, r5, r6, r7⟩ := ih c qs iw aw (by omega) (by omega) (by omega) h17 hs hold
        have hAf : all.testBit c = false := by cases hq : all.testBit c with
          | true => exact absurd hq hA
          | false => rfl
        have eU : jalU kd lb pt h a b n all (c + 1) = jalU kd lb pt h a b n all c := by rw [jalU_s, hAf, Bool.false_and]; simp
        refine ⟨iw2, aw2, r1, r2, by rw [eU]; exact r3, by rw [eU]; exact r4, r5, fun p hp => r6 p (by omega), fun l hl q1 q2 => ?_⟩
        by_cases e : l = c
        · subst e
          rw [hAf] at q1
          cases q1
        · exact r7 l (by omega) q1 q2
