/-- below: no word leads to two that do not fit -/
def blw (kd lb : Nat → Nat) (pt : Nat → Nat → Nat) (a b : Nat) : Prop := ∀ v, ¬ isBad kd lb pt a b v
theorem fitI {kd lb : Nat → Nat} {a b : Nat} : fitB kd lb a b = true ↔ (kd a = 1 ∨ kd b = 0 ∨ (kd a = kd b ∧ (kd a = 5 → ∀ l, (lb b).testBit l = true → (lb a).testBit l = true) ∧ (kd a = 6 → ∀ l, (lb a).testBit l = true → (lb b).testBit l = true))) := by
  have sub : ∀ x y : Nat, x &&& y = x ↔ ∀ l, x.testBit l = true → y.testBit l = true := by
    intro x y
    constructor
    · intro h l hl
      rw [← h, Nat.testBit_and] at hl
      exact (Bool.and_eq_true_iff.mp hl).2
    · intro h
      apply Nat.eq_of_testBit_eq
      intro l
      rw [Nat.testBit_and]
      cases hx : x.testBit l with
      | false => rfl
      | true => rw [h l hx]; rfl
  unfold fitB
  rw [Bool.or_eq_true_iff, Bool.or_eq_true_iff, Bool.and_eq_true_iff, Bool.and_eq_true_iff, Bool.or_eq_true_iff, Bool.or_eq_true_iff, decide_eq_true_eq, decide_eq_true_eq, decide_eq_true_eq, decide_eq_true_eq, decide_eq_true_eq, decide_eq_true_eq, decide_eq_true_eq, sub, sub]
  constructor
  · rintro ((h | h) | ⟨⟨h1, h2⟩, h3⟩)
    · exact Or.inl h
    · exact Or.inr (Or.inl h)
    · refine Or.inr (Or.inr ⟨h1, fun e => ?_, fun e => ?_⟩)
      · rcases h2 with h | h
        · exact absurd e h
        · exact h
      · rcases h3 with h | h
        · exact absurd e h
        · exact h
  · rintro (h | h | ⟨h1, h2, h3⟩)
    · exact Or.inl (Or.inl h)
    · exact Or.inl (Or.inr h)
    · refine Or.inr ⟨⟨h1, ?_⟩, ?_⟩
      · by_cases e : kd a = 5
        · exact Or.inr (h2 e)
        · exact Or.inl e
      · by_cases e : kd a = 6
        · exact Or.inr (h3 e)
        · exact Or.inl e
theorem blw_fit {kd lb : Nat → Nat} {pt : Nat → Nat → Nat} {a b : Nat} (h : blw kd lb pt a b) : fitB kd lb a b = true := by
  cases e : fitB kd lb a b with
  | true => rfl
  | false => exact absurd ⟨a, b, ⟨rfl, rfl⟩, e⟩ (h [])
theorem blw_next {kd lb : Nat → Nat} {pt : Nat → Nat → Nat} {a b l : Nat} (h : blw kd lb pt a b) (hl : l < 8) (hw : wl lb a b l = true) : blw kd lb pt (nxA kd pt a b l) (nxB kd pt a b l) := by
  rintro v ⟨x, y, h1, h2⟩
  exact h (l :: v) ⟨x, y, ⟨blw_fit h, hl, hw, h1⟩, h2⟩
theorem blw_co {kd lb : Nat → Nat} {pt : Nat → Nat → Nat} {R : Nat → Nat → Prop} (hR : ∀ a b, R a b → fitB kd lb a b = true ∧ ∀ l, l < 8 → wl lb a b l = true → R (nxA kd pt a b l) (nxB kd pt a b l)) : ∀ (v : List Nat) (a b : Nat), R a b → ¬ isBad kd lb pt a b v
  | [], a, b, h, ⟨x, y, ⟨e1, e2⟩, e3⟩ => by
    subst e1 e2
    rw [(hR _ _ h).1] at e3
    cases e3
  | l :: v, a, b, h, ⟨x, y, ⟨_, h2, h3, h4⟩, e3⟩ => blw_co hR v _ _ ((hR a b h).2 l h2 h3) ⟨x, y, h4, e3⟩
theorem blw_refl {kd lb : Nat → Nat} {pt : Nat → Nat → Nat} (a : Nat) : blw kd lb pt a a := fun v => blw_co (R := fun a b => a = b) (fun a b h => by
  subst h
  refine ⟨fitI.mpr (Or.inr (Or.inr ⟨rfl, fun _ _ h => h, fun _ _ h => h⟩)), fun l _ _ => ?_⟩
  unfold nxA nxB
  by_cases e : kd a = 4 ∧ l = 0
  · rw [if_pos e]
  · rw [if_neg e]) v a a rfl
theorem wlI {lb : Nat → Nat} {a b l : Nat} : wl lb a b l = true ↔ (lb a).testBit l = true ∧ (lb b).testBit l = true := Bool.and_eq_true_iff
theorem noBit {g : Nat} {kd lb : Nat → Nat} {pt : Nat → Nat → Nat} (hG : Gr g kd lb pt) {a : Nat} (ha : a < g) (hk : kd a < 4) (l : Nat) : ¬ (lb a).testBit l = true := by
  rw [(hG a ha).2.2.1 hk, Nat.zero_testBit]
  exact Bool.false_ne_true
theorem blw_leaf {kd lb : Nat → Nat} {pt : Nat → Nat → Nat} {a b : Nat} (hf : fitB kd lb a b = true) (h0 : ∀ l, wl lb a b l = true → False) : blw kd lb pt a b := by
  rintro v ⟨x, y, h1, h2⟩
  cases v with
  | nil =>
    obtain ⟨rfl, rfl⟩ := h1
    rw [hf] at h2
    cases h2
  | cons l v => exact h0 l h1.2.2.1
theorem blw_trans {g : Nat} {kd lb : Nat → Nat} {pt : Nat → Nat → Nat} (hG : Gr g kd lb pt) {a b c : Nat} (ha : a < g) (hb : b < g) (hc : c < g) (h1 : blw kd lb pt a b) (h2 : blw kd lb pt b c) : blw kd lb pt a c := by
  refine fun v => blw_co (R := fun a c => a < g ∧ c < g ∧ ∃ b, b < g ∧ blw kd lb pt a b ∧ blw kd lb pt b c) ?_ v a c ⟨ha, hc, b, hb, h1, h2⟩
  clear h1 h2 ha hb hc a b c v
  rintro a c ⟨ha, hc, b, hb, h1, h2⟩
  by_cases a1 : kd a = 1
  · exact ⟨fitI.mpr (Or.inl a1), fun l _ hw => absurd (wlI.mp hw).1 (noBit hG ha (by omega) l)⟩
  by_cases c0 : kd c = 0
  · exact ⟨fitI.mpr (Or.inr (Or.inl c0)), fun l _ hw => absurd (wlI.mp hw).2 (noBit hG hc (by omega) l)⟩
  have f1 := fitI.mp (blw_fit h1)
  have f2 := fitI.mp (blw_fit h2)
  have hab : kd a = kd b ∧ (kd a = 5 → ∀ l, (lb b).testBit l = true → (lb a).testBit l = true) ∧ (kd a = 6 → ∀ l, (lb a).testBit l = true → (lb b).testBit l = true) := by
    rcases f1 with f | f | f
    · exact absurd f a1
    · rcases f2 with q | q | q
      · omega
      · exact absurd q c0
      · omega
    · exact f
  have hbc : kd b = kd c ∧ (kd b = 5 → ∀ l, (lb c).testBit l = true → (lb b).testBit l = true) ∧ (kd b = 6 → ∀ l, (lb b).testBit l = true → (lb c).testBit l = true) := by
    rcases f2 with f | f | f
    · omega
    · exact absurd f c0
    · exact f
  refine ⟨fitI.mpr (Or.inr (Or.inr ⟨by omega, fun e l hl => hab.2.1 e l (hbc.2.1 (by omega) l hl), fun e l hl => hbc.2.2 (by omega) l (hab.2.2 e l hl)⟩)), fun l hl8 hw => ?_⟩
  obtain ⟨wa, wc⟩ := wlI.mp hw
  have wb : (lb b).testBit l = true := by
    have hk6 := (hG a ha).1
    by_cases k4 : kd a = 4
    · rw [(hG b hb).2.2.2.1 (by omega), ← (hG a ha).2.2.2.1 k4]
      exact wa
    · by_cases k5 : kd a = 5
      · exact hbc.2.1 (by omega) l wc
      · by_cases k6 : kd a = 6
        · exact hab.2.2 k6 l wa
        · exact absurd wa (noBit hG ha (by omega) l)
  have n1 := blw_next h1 hl8 (wlI.mpr ⟨wa, wb⟩)
  have n2 := blw_next h2 hl8 (wlI.mpr ⟨wb, wc⟩)
  have pa := (hG a ha).2.2.2.2 l hl8 wa
  have pb := (hG b hb).2.2.2.2 l hl8 wb
  have pc := (hG c hc).2.2.2.2 l hl8 wc
  unfold nxA nxB at n1 n2 ⊢
  rw [← hab.1] at n2
  by_cases e : kd a = 4 ∧ l = 0
  · rw [if_pos e, if_pos e] at n1 n2 ⊢
    exact ⟨pc, pa, _, pb, n2, n1⟩
  · rw [if_neg e, if_neg e] at n1 n2 ⊢
    exact ⟨pa, pc, _, pb, n1, n2⟩
theorem blw_grow {f g : Nat} {kd lb kd2 lb2 : Nat → Nat} {pt pt2 : Nat → Nat → Nat} (hG : Gr f kd lb pt) (hg : grow f kd lb pt g kd2 lb2 pt2) {a b : Nat} (ha : a < f) (hb : b < f) (h : blw kd lb pt a b) : blw kd2 lb2 pt2 a b := by
  refine fun v => blw_co (R := fun a b => a < f ∧ b < f ∧ blw kd lb pt a b) ?_ v a b ⟨ha, hb, h⟩
  clear ha hb h a b v
  rintro a b ⟨ha, hb, h⟩
  obtain ⟨a1, a2, a3⟩ := hg.2.2 a ha
  obtain ⟨b1, b2, b3⟩ := hg.2.2 b hb
  refine ⟨?_, fun l hl hw => ?_⟩
  · have := fitI.mp (blw_fit h)
    rw [fitI, a1, a2, b1, b2]
    exact this
  · have hw2 : wl lb a b l = true := by
      rw [wlI, a2, b2] at hw
      exact wlI.mpr hw
    have n1 := blw_next h hl hw2
    have pa := (hG a ha).2.2.2.2 l hl (wlI.mp hw2).1
    have pb := (hG b hb).2.2.2.2 l hl (wlI.mp hw2).2
    unfold nxA nxB at n1 ⊢
    rw [a1, a3, b3]
    by_cases e : kd a = 4 ∧ l = 0
    · rw [if_pos e, if_pos e] at n1 ⊢
      exact ⟨pb, pa, n1⟩
    · rw [if_neg e, if_neg e] at n1 ⊢
      exact ⟨pa, pb, n1⟩
