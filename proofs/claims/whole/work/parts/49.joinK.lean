/-- what came of a part -/
def rsU (rs : Nat → Nat → Nat) (o l r : Nat) : Nat → Nat → Nat := fun m k => if m = o ∧ k = l then r else rs m k
theorem jtgt_ne {lb : Nat → Nat} {pt : Nat → Nat → Nat} {ta tb : Nat → Nat} {rs : Nat → Nat → Nat} {o l r m k : Nat} (h : ¬ (m = o ∧ k = l)) : jtgt lb pt ta tb (rsU rs o l r) m k = jtgt lb pt ta tb rs m k := by
  unfold jtgt rsU
  rw [if_neg h]
theorem c_set {f n : Nat} {kd lb : Nat → Nat} {pt : Nat → Nat → Nat} {th ta tb P Q : Nat → Nat} {rs : Nat → Nat → Nat} {os : List Nat} {iv : mI} {ar : mA} {la : mL} {pA pB : mA} (hn : n ≤ 200) (hC : jC f n kd lb pt th ta tb P Q rs os iv ar) {o l r : Nat} (ho : f ≤ o) (ho2 : o < n) (hl : l < 8) (hP : P o = l) (hL : jlab kd lb (th o) (ta o) (tb o) < 256) (hb : (jlab kd lb (th o) (ta o) (tb o)).testBit l = true) :
    ∃ ar2, mX3_setPart (nI o) (nI l) (nI (jtgt lb pt ta tb (rsU rs o l r) o l)) iv ar la pA pB = some (0, iv, ar2, la, pA, pB) ∧ (∀ k, k ≠ 301 → k ≠ 302 → ar2 k = ar k) ∧ jC f n kd lb pt th ta tb (va_up P o (l + 1)) Q (rsU rs o l r) os iv ar2 := by
  obtain ⟨⟨c1, c2, c3⟩, c4, c5, c6⟩ := hC
  obtain ⟨b1, b2, b3, b4⟩ := c5 o ho ho2
  rw [hP] at b2 b3
  have hmod : jlab kd lb (th o) (ta o) (tb o) % 2 ^ l < 256 := Nat.lt_of_le_of_lt (Nat.mod_le _ _) hL
  refine ⟨_, c_setJ hn c1 hmod ho2 hl b2, fun k k1 k2 => ?_, ⟨c1, c2, c3⟩, fun k hk => ?_, fun m h1 h2 => ?_, ?_⟩
  · unfold au
    rw [va_up_ne _ _ k2, va_up_ne _ _ k1]
  · obtain ⟨a1, a2, a3⟩ := c4 k hk
    have e1 : ¬ k = o := by omega
    refine ⟨by simp [aur]; exact a1, by simp [aur, e1]; exact a2, fun l2 hl2 hb2 => ?_⟩
    have e2 : ¬ k * 8 + l2 = o * 8 + l := by omega
    simp [aur, e2]
    exact a3 l2 hl2 hb2
  · by_cases e : m = o
    · subst e
      refine ⟨by simp [aur]; exact b1, ?_, fun l2 hl2 hlP hb2 => ?_, by simp [aur]; exact b4⟩
      · simp only [upr, if_true]
        rw [lab_up, if_pos hb]
        simp [aur]
      · simp only [upr, if_true] at hlP
        by_cases e2 : l2 = l
        · subst e2
          simp [aur]
        · rw [jtgt_ne (fun q => e2 q.2)]
          have e3 : ¬ m * 8 + l2 = m * 8 + l := by omega
          simp only [aur, e3, if_true, if_false]
          simp
          exact b3 l2 hl2 (by omega) hb2
    · obtain ⟨d1, d2, d3, d4⟩ := c5 m h1 h2
      simp only [upr, e, if_false]
      refine ⟨by simp [aur]; exact d1, by simp [aur, e]; exact d2, fun l2 hl2 hlP hb2 => ?_, by simp [aur]; exact d4⟩
      have e3 : ¬ m * 8 + l2 = o * 8 + l := by omega
      rw [jtgt_ne (fun q => e q.1)]
      simp [aur, e3]
      exact d3 l2 hl2 hlP hb2
  · exact stkC_keep os os.length (Nat.le_refl _) (fun i _ => by simp [aur]) (fun _ _ => rfl) c6
theorem c_skip {f n : Nat} {kd lb : Nat → Nat} {pt : Nat → Nat → Nat} {th ta tb P Q : Nat → Nat} {rs : Nat → Nat → Nat} {os : List Nat} {iv : mI} {ar : mA} (hC : jC f n kd lb pt th ta tb P Q rs os iv ar) {o l r : Nat} (hl : l < 8) (hP : P o = l) (hb : (jlab kd lb (th o) (ta o) (tb o)).testBit l = false) : jC f n kd lb pt th ta tb (va_up P o (l + 1)) Q (rsU rs o l r) os iv ar := by
  obtain ⟨c123, c4, c5, c6⟩ := hC
  refine ⟨c123, c4, fun m h1 h2 => ?_, c6⟩
  obtain ⟨d1, d2, d3, d4⟩ := c5 m h1 h2
  by_cases e : m = o
  · subst e
    simp only [upr, if_true]
    rw [lab_up, if_neg (by rw [hb]; decide)]
    rw [hP] at d2 d3
    refine ⟨d1, d2, fun l2 hl2 hlP hb2 => ?_, d4⟩
    by_cases e2 : l2 = l
    · rw [e2, hb] at hb2; cases hb2
    · rw [jtgt_ne (fun q => e2 q.2)]
      exact d3 l2 hl2 (by omega) hb2
  · simp only [upr, e, if_false]
    exact ⟨d1, d2, fun l2 hl2 hlP hb2 => by rw [jtgt_ne (fun q => e q.1)]; exact d3 l2 hl2 hlP hb2, d4⟩
theorem jG_step {f n : Nat} {kd lb : Nat → Nat} {pt : Nat → Nat → Nat} {th ta tb P : Nat → Nat} {rs : Nat → Nat → Nat} {os : List Nat} (hG : jG f n kd lb pt th ta tb P rs os) {o l r : Nat} (ho : o ∈ os) (hl : l < 8) (hP : P o = l) (hr : jboth lb (ta o) (tb o) l = true → jrs f n kd th ta tb (jsub kd (th o) (ta o) l) (pt (ta o) l) (pt (tb o) l) r) : jG f n kd lb pt th ta tb (va_up P o (l + 1)) (rsU rs o l r) os := by
  obtain ⟨g1, g3, g4, g5, g6, g7⟩ := hG
  refine ⟨g1, fun m h1 h2 => ?_, g4, g5, g6, fun m h1 h2 hm => ?_⟩
  · obtain ⟨b1, b2, b3, b4, b5, b6⟩ := g3 m h1 h2
    by_cases e : m = o
    · subst e
      refine ⟨b1, b2, b3, b4, by simp only [upr, if_true]; omega, fun l2 hl2 hlP hb2 hbt => ?_⟩
      simp only [upr, if_true] at hlP
      unfold rsU
      by_cases e2 : l2 = l
      · rw [if_pos ⟨rfl, e2⟩]
        subst e2
        exact hr hbt
      · rw [if_neg (fun q => e2 q.2)]
        exact b6 l2 hl2 (by omega) hb2 hbt
    · refine ⟨b1, b2, b3, b4, by simp only [upr, e, if_false]; exact b5, fun l2 hl2 hlP hb2 hbt => ?_⟩
      simp only [upr, e, if_false] at hlP
      unfold rsU
      rw [if_neg (fun q => e q.1)]
      exact b6 l2 hl2 hlP hb2 hbt
  · have e : ¬ m = o := fun q => hm (by rw [q]; exact ho)
    simp only [upr, e, if_false]
    exact g7 m h1 h2 hm
theorem jR_set {f n : Nat} {kd lb : Nat → Nat} {pt : Nat → Nat → Nat} {th ta tb P : Nat → Nat} {rs : Nat → Nat → Nat} {qs : List Ask} {iw : mI} {aw : mA} (hR : jR f n kd lb pt th ta tb P rs qs iw aw) {o l r : Nat} (ho : f ≤ o) (ho2 : o < n) (hl : l < 8) (hP : P o = l) (hb : jboth lb (ta o) (tb o) l = true) : jR f n kd lb pt th ta tb (va_up P o (l + 1)) (rsU rs o l r) qs iw (au aw 6 (8 * o + l) (nI r)) := by
  obtain ⟨r123, r4, r5, r6⟩ := hR
  refine ⟨r123, fun k hk => ?_, fun m h1 h2 => ?_, stkR_keep qs (fun j j1 j2 => va_up_ne _ _ (by omega)) r6⟩
  · obtain ⟨a1, a2, a3⟩ := r4 k hk
    refine ⟨by simp [aur]; exact a1, by simp [aur]; exact a2, fun l2 hl2 hb2 => ?_⟩
    have e2 : ¬ 8 * k + l2 = 8 * o + l := by omega
    simp [aur, e2]
    exact a3 l2 hl2 hb2
  · obtain ⟨d1, d2, d3, d4⟩ := r5 m h1 h2
    refine ⟨by simp [aur]; exact d1, by simp [aur]; exact d2, fun l2 hl2 hb2 hq => ?_, by simp [aur]; exact d4⟩
    by_cases e : m = o ∧ l2 = l
    · obtain ⟨rfl, rfl⟩ := e
      unfold jtgt rsU
      rw [if_pos hb, if_pos ⟨rfl, rfl⟩]
      simp [aur]
    · have e2 : ¬ 8 * m + l2 = 8 * o + l := by omega
      rw [jtgt_ne e]
      simp only [aur, e2, if_true, if_false]
      refine d3 l2 hl2 hb2 (fun q => ?_)
      have := hq q
      by_cases e3 : m = o
      · subst e3
        simp only [upr, if_true] at this
        omega
      · simp only [upr, e3, if_false] at this
        exact this
theorem jR_skip {f n : Nat} {kd lb : Nat → Nat} {pt : Nat → Nat → Nat} {th ta tb P : Nat → Nat} {rs : Nat → Nat → Nat} {qs : List Ask} {iw : mI} {aw : mA} (hR : jR f n kd lb pt th ta tb P rs qs iw aw) {o l r : Nat} (hP : P o = l) (hb : jboth lb (ta o) (tb o) l = false) : jR f n kd lb pt th ta tb (va_up P o (l + 1)) (rsU rs o l r) qs iw aw := by
  obtain ⟨r123, r4, r5, r6⟩ := hR
  refine ⟨r123, r4, fun m h1 h2 => ?_, r6⟩
  obtain ⟨d1, d2, d3, d4⟩ := r5 m h1 h2
  refine ⟨d1, d2, fun l2 hl2 hb2 hq => ?_, d4⟩
  by_cases e : m = o ∧ l2 = l
  · obtain ⟨rfl, rfl⟩ := e
    have := d3 l2 hl2 hb2 (fun q => by rw [hb] at q; cases q)
    rw [this]
    unfold jtgt
    rw [hb]
    rfl
  · rw [jtgt_ne e]
    refine d3 l2 hl2 hb2 (fun q => ?_)
    have := hq q
    by_cases e3 : m = o
    · subst e3
      simp only [upr, if_true] at this
      omega
    · simp only [upr, e3, if_false] at this
      exact this
theorem jasks_congr {kd lb : Nat → Nat} {pt : Nat → Nat → Nat} {th ta tb P th2 ta2 tb2 P2 : Nat → Nat} : ∀ (os : List Nat), (∀ o, o ∈ os → th2 o = th o ∧ ta2 o = ta o ∧ tb2 o = tb o ∧ P2 o = P o) → jasks kd lb pt th2 ta2 tb2 P2 os = jasks kd lb pt th ta tb P os
  | [], _ => rfl
  | o :: os, h => by
    obtain ⟨h1, h2, h3, h4⟩ := h o List.mem_cons_self
    have ih := jasks_congr (kd := kd) (lb := lb) (pt := pt) os (fun x hx => h x (List.mem_cons_of_mem _ hx))
    unfold jasks at ih ⊢
    rw [List.flatMap_cons, List.flatMap_cons, ih]
    unfold jal
    rw [h1, h2, h3, h4]
theorem jasks_len {kd lb : Nat → Nat} {pt : Nat → Nat → Nat} {th ta tb P : Nat → Nat} : ∀ (os : List Nat), (jasks kd lb pt th ta tb P os).length ≤ 8 * os.length
  | [] => Nat.le_refl _
  | o :: os => by
    have ih := jasks_len (kd := kd) (lb := lb) (pt := pt) (th := th) (ta := ta) (tb := tb) (P := P) os
    have := jal_len (kd := kd) (lb := lb) (pt := pt) (th := th) (ta := ta) (tb := tb) (o := o) (p := P o)
    unfold jasks at ih ⊢
    rw [List.flatMap_cons, List.length_append, List.length_cons]
    omega
theorem nodup_len {f : Nat} : ∀ (k : Nat) (os : List Nat), os.Nodup → (∀ o, o ∈ os → f ≤ o ∧ o < f + k) → os.length ≤ k := by
  intro k
  induction k with
  | zero =>
    intro os h1 h2
    cases os with
    | nil => exact Nat.le_refl _
    | cons o os => have := h2 o List.mem_cons_self; omega
  | succ k ih =>
    intro os h1 h2
    have h3 := ih (os.erase (f + k)) (h1.erase _) (fun o ho => by
      have e := (h1.mem_erase_iff).mp ho
      have := h2 o e.2
      have := e.1
      omega)
    have h4 : os.length ≤ (os.erase (f + k)).length + 1 := by
      rw [List.length_erase]
      split <;> omega
    omega
