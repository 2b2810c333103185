-- linked rows: the pairs that lead to a pair
def lk (aw : mA) (n : Nat) : List Nat → Int32 → Prop
  | [], s => s = m1
  | c :: bl, s => ∃ w, w < n ∧ s = nI w ∧ aw 11 w = nI c ∧ lk aw w bl (aw 10 w)
theorem lk_mono {aw aw' : mA} : ∀ (bl : List Nat) (n n' : Nat) (s : Int32), n ≤ n' → (∀ w, w < n → aw' 11 w = aw 11 w ∧ aw' 10 w = aw 10 w) → lk aw n bl s → lk aw' n' bl s
  | [], _, _, _, _, _, hs => hs
  | c :: bl, n, n', s, hn, h, ⟨w, h1, h2, h3, h4⟩ => ⟨w, by omega, h2, by rw [(h w h1).1]; exact h3, by rw [(h w h1).2]; exact lk_mono bl w w _ (Nat.le_refl w) (fun z hz => h z (by omega)) h4⟩
theorem lk_len {aw : mA} : ∀ (bl : List Nat) (n : Nat) (s : Int32), lk aw n bl s → bl.length ≤ n
  | [], _, _, _ => Nat.zero_le _
  | c :: bl, n, s, ⟨w, h1, h2, h3, h4⟩ => by
    have := lk_len bl w _ h4
    simp
    omega
/-- x, y, l is done before X, Y, L -/
def bef (X Y L x y l : Nat) : Prop := x < X ∨ (x = X ∧ (y < Y ∨ (y = Y ∧ l < L)))
/-- what leads to a pair, of what is done -/
def ldto (g : Nat) (kd lb : Nat → Nat) (pt : Nat → Nat → Nat) (X Y L a b c : Nat) : Prop := ∃ x y l, bef X Y L x y l ∧ c = 400 * x + y ∧ x < g ∧ y < g ∧ l < 8 ∧ fitB kd lb x y = true ∧ wl lb x y l = true ∧ nxA kd pt x y l = a ∧ nxB kd pt x y l = b
def adjI (g : Nat) (kd lb : Nat → Nat) (pt : Nat → Nat → Nat) (X Y L n : Nat) (aw : mA) : Prop := ∀ a b, a < g → b < g → ∃ bl, lk aw n bl (aw 9 (400 * a + b)) ∧ ∀ c, c ∈ bl ↔ ldto g kd lb pt X Y L a b c
theorem adj_skip {g : Nat} {kd lb : Nat → Nat} {pt : Nat → Nat → Nat} {X Y L n : Nat} {aw : mA} (h : adjI g kd lb pt X Y L n aw) (hs : ¬ (fitB kd lb X Y = true ∧ wl lb X Y L = true)) : adjI g kd lb pt X Y (L + 1) n aw := by
  intro a b ha hb
  obtain ⟨bl, h1, h2⟩ := h a b ha hb
  refine ⟨bl, h1, fun c => (h2 c).trans ?_⟩
  constructor
  · rintro ⟨x, y, l, q, r⟩
    refine ⟨x, y, l, ?_, r⟩
    unfold bef at q ⊢
    omega
  · rintro ⟨x, y, l, q, e, r1, r2, r3, r4, r5, r6⟩
    refine ⟨x, y, l, ?_, e, r1, r2, r3, r4, r5, r6⟩
    unfold bef at q ⊢
    by_cases e2 : x = X ∧ y = Y ∧ l = L
    · obtain ⟨rfl, rfl, rfl⟩ := e2
      exact absurd ⟨r4, r5⟩ hs
    · omega
theorem adj_row {g : Nat} {kd lb : Nat → Nat} {pt : Nat → Nat → Nat} {X Y n : Nat} {aw : mA} (h : adjI g kd lb pt X Y 8 n aw) : adjI g kd lb pt X (Y + 1) 0 n aw := by
  intro a b ha hb
  obtain ⟨bl, h1, h2⟩ := h a b ha hb
  refine ⟨bl, h1, fun c => (h2 c).trans ?_⟩
  constructor
  · rintro ⟨x, y, l, q, r⟩
    refine ⟨x, y, l, ?_, r⟩
    unfold bef at q ⊢
    omega
  · rintro ⟨x, y, l, q, e, r1, r2, r3, r⟩
    refine ⟨x, y, l, ?_, e, r1, r2, r3, r⟩
    unfold bef at q ⊢
    omega
theorem adj_unfit {g : Nat} {kd lb : Nat → Nat} {pt : Nat → Nat → Nat} {X Y n : Nat} {aw : mA} (h : adjI g kd lb pt X Y 0 n aw) (hs : fitB kd lb X Y = false) : adjI g kd lb pt X (Y + 1) 0 n aw := by
  intro a b ha hb
  obtain ⟨bl, h1, h2⟩ := h a b ha hb
  refine ⟨bl, h1, fun c => (h2 c).trans ?_⟩
  constructor
  · rintro ⟨x, y, l, q, r⟩
    refine ⟨x, y, l, ?_, r⟩
    unfold bef at q ⊢
    omega
  · rintro ⟨x, y, l, q, e, r1, r2, r3, r4, r5⟩
    refine ⟨x, y, l, ?_, e, r1, r2, r3, r4, r5⟩
    unfold bef at q ⊢
    by_cases e2 : x = X ∧ y = Y
    · obtain ⟨rfl, rfl⟩ := e2
      rw [hs] at r4
      cases r4
    · omega
theorem adj_next {g : Nat} {kd lb : Nat → Nat} {pt : Nat → Nat → Nat} {X n : Nat} {aw : mA} (h : adjI g kd lb pt X g 0 n aw) : adjI g kd lb pt (X + 1) 0 0 n aw := by
  intro a b ha hb
  obtain ⟨bl, h1, h2⟩ := h a b ha hb
  refine ⟨bl, h1, fun c => (h2 c).trans ?_⟩
  constructor
  · rintro ⟨x, y, l, q, r⟩
    refine ⟨x, y, l, ?_, r⟩
    unfold bef at q ⊢
    omega
  · rintro ⟨x, y, l, q, e, r1, r2, r⟩
    refine ⟨x, y, l, ?_, e, r1, r2, r⟩
    unfold bef at q ⊢
    omega
theorem adj_same {g : Nat} {kd lb : Nat → Nat} {pt : Nat → Nat → Nat} {X Y L n : Nat} {aw aw' : mA} (h : adjI g kd lb pt X Y L n aw) (h9 : ∀ p, aw' 9 p = aw 9 p) (h10 : ∀ p, aw' 10 p = aw 10 p) (h11 : ∀ p, aw' 11 p = aw 11 p) : adjI g kd lb pt X Y L n aw' := by
  intro a b ha hb
  obtain ⟨bl, h1, h2⟩ := h a b ha hb
  exact ⟨bl, by rw [h9]; exact lk_mono bl n n _ (Nat.le_refl n) (fun w _ => ⟨h11 w, h10 w⟩) h1, h2⟩
theorem adj_push {g : Nat} {kd lb : Nat → Nat} {pt : Nat → Nat → Nat} {X Y L n : Nat} {aw : mA} (h : adjI g kd lb pt X Y L n aw) (hX : X < g) (hY : Y < g) (hg : g ≤ 200) (hL : L < 8) (hf : fitB kd lb X Y = true) (hw : wl lb X Y L = true) (hb1 : nxB kd pt X Y L < g) : adjI g kd lb pt X Y (L + 1) (n + 1) (au (au (au aw 11 n (nI (400 * X + Y))) 10 n (aw 9 (400 * nxA kd pt X Y L + nxB kd pt X Y L))) 9 (400 * nxA kd pt X Y L + nxB kd pt X Y L) (nI n)) := by
  generalize hA : nxA kd pt X Y L = A at *
  generalize hB : nxB kd pt X Y L = B at *
  have q9 : ∀ p, au (au (au aw 11 n (nI (400 * X + Y))) 10 n (aw 9 (400 * A + B))) 9 (400 * A + B) (nI n) 9 p = if p = 400 * A + B then nI n else aw 9 p := by
    intro p; simp [aur]
  have q10 : ∀ p, au (au (au aw 11 n (nI (400 * X + Y))) 10 n (aw 9 (400 * A + B))) 9 (400 * A + B) (nI n) 10 p = if p = n then aw 9 (400 * A + B) else aw 10 p := by
    intro p; simp [aur]
  have q11 : ∀ p, au (au (au aw 11 n (nI (400 * X + Y))) 10 n (aw 9 (400 * A + B))) 9 (400 * A + B) (nI n) 11 p = if p = n then nI (400 * X + Y) else aw 11 p := by
    intro p; simp [aur]
  generalize au (au (au aw 11 n (nI (400 * X + Y))) 10 n (aw 9 (400 * A + B))) 9 (400 * A + B) (nI n) = aw' at *
  have keep : ∀ w, w < n → aw' 11 w = aw 11 w ∧ aw' 10 w = aw 10 w := fun w hw => by
    rw [q11, q10, if_neg (by omega), if_neg (by omega)]; exact ⟨rfl, rfl⟩
  intro a b ha hb
  obtain ⟨bl, h1, h2⟩ := h a b ha hb
  have step : ∀ c, ldto g kd lb pt X Y (L + 1) a b c ↔ ((a = A ∧ b = B ∧ c = 400 * X + Y) ∨ ldto g kd lb pt X Y L a b c) := by
    intro c
    constructor
    · rintro ⟨x, y, l, q, e, r1, r2, r3, r4, r5, r6, r7⟩
      by_cases e2 : x = X ∧ y = Y ∧ l = L
      · obtain ⟨rfl, rfl, rfl⟩ := e2
        exact Or.inl ⟨r6.symm.trans hA, r7.symm.trans hB, e⟩
      · refine Or.inr ⟨x, y, l, ?_, e, r1, r2, r3, r4, r5, r6, r7⟩
        unfold bef at q ⊢
        omega
    · rintro (⟨e1, e2, e3⟩ | ⟨x, y, l, q, r⟩)
      · exact ⟨X, Y, L, Or.inr ⟨rfl, Or.inr ⟨rfl, by omega⟩⟩, e3, hX, hY, hL, hf, hw, hA.trans e1.symm, hB.trans e2.symm⟩
      · refine ⟨x, y, l, ?_, r⟩
        unfold bef at q ⊢
        omega
  by_cases e : a = A ∧ b = B
  · obtain ⟨rfl, rfl⟩ := e
    refine ⟨(400 * X + Y) :: bl, ⟨n, by omega, by rw [q9, if_pos rfl], by rw [q11, if_pos rfl], ?_⟩, fun c => ?_⟩
    · rw [q10, if_pos rfl]
      exact lk_mono bl n n _ (Nat.le_refl n) keep h1
    · rw [step, List.mem_cons, h2]
      simp
  · have hne : ¬ 400 * a + b = 400 * A + B := by
      intro h3
      apply e
      omega
    refine ⟨bl, ?_, fun c => ?_⟩
    · rw [q9, if_neg hne]
      exact lk_mono bl n (n + 1) _ (by omega) keep h1
    · rw [step, h2]
      constructor
      · exact Or.inr
      · rintro (⟨e1, e2, _⟩ | h3)
        · exact absurd ⟨e1, e2⟩ e
        · exact h3
theorem add_loop {g : Nat} {kd lb : Nat → Nat} {pt : Nat → Nat → Nat} {iw : mI} (hg : g ≤ 200) (hG : Gr g kd lb pt) {X Y N0 : Nat} (hX : X < g) (hY : Y < g) (hf : fitB kd lb X Y = true) (hN : N0 + 8 ≤ 320000) : ∀ (fu L n : Nat) (aw : mA), 8 < L + fu → L ≤ 8 → n ≤ N0 + L → rG g kd lb pt iw aw → adjI g kd lb pt X Y L n aw →
    ∃ (n2 : Nat) (aw2 : mA), mX12_addBack_L14 fu (nI X) (nI Y) (nI n) (nI (lb X &&& lb Y)) (nI L) iw aw = some (nI n2, iw, aw2) ∧ n2 ≤ N0 + 8 ∧ (∀ j, j ≠ 9 → j ≠ 10 → j ≠ 11 → aw2 j = aw j) ∧ adjI g kd lb pt X Y 8 n2 aw2 := by
  intro fu
  induction fu with
  | zero => intro L n aw h1 h2; omega
  | succ fu ih =>
    intro L n aw h1 h2 h3 hr hA
    unfold mX12_addBack_L14
    by_cases hL : L = 8
    · subst hL
      refine ⟨n, aw, ?_, h3, fun _ _ _ _ => rfl, hA⟩
      rw [if_pos (show (8 : Int32) ≤ nI 8 from nI_le (Nat.le_refl 8) (by decide))]
    · have hL8 : L < 8 := by omega
      have la1 := (hG X hX).2.1
      have hm : lb X &&& lb Y < 256 := Nat.lt_of_le_of_lt Nat.and_le_left la1
      rw [if_neg (show ¬ (8 : Int32) ≤ nI L from nI_ge hL8 (by decide))]
      have hbit := bit_get hm hL8
      rw [wl_bit] at hbit
      by_cases hw : wl lb X Y L = true
      · rw [if_pos (by rw [hbit]; exact hw), r_next hg hG hr hX hY hL8 hw, obe]
        have hw2 := hw
        unfold wl at hw2
        rw [Bool.and_eq_true] at hw2
        have pa := (hG X hX).2.2.2.2 L hL8 hw2.1
        have pb := (hG Y hY).2.2.2.2 L hL8 hw2.2
        have a1 : nxA kd pt X Y L < g := by unfold nxA; split <;> omega
        have b1 : nxB kd pt X Y L < g := by unfold nxB; split <;> omega
        rw [if_neg (nI_in (by omega) (by omega)), if_neg (nI_in (by omega) (by omega)), if_neg (nI_in (by omega) (by omega)), if_neg (nI_in (by omega) (by omega)), ncl (a := n) (by omega), ncl (a := 400 * nxA kd pt X Y L + nxB kd pt X Y L) (by omega)]
        have e1 : (400 * nI X + nI Y : Int32) = nI (400 * X + Y) := by rw [show (400 : Int32) = nI 400 from rfl, nmul, nadd]
        have e2 : au aw 11 n (nI (400 * X + Y)) 9 (400 * nxA kd pt X Y L + nxB kd pt X Y L) = aw 9 (400 * nxA kd pt X Y L + nxB kd pt X Y L) := by simp [aur]
        rw [e1, e2, show (1 : Int32) = nI 1 from rfl, nadd, nadd]
        have hP := adj_push hA hX hY hg hL8 hf hw b1
        have hr2 : rG g kd lb pt iw (au (au (au aw 11 n (nI (400 * X + Y))) 10 n (aw 9 (400 * nxA kd pt X Y L + nxB kd pt X Y L))) 9 (400 * nxA kd pt X Y L + nxB kd pt X Y L) (nI n)) := ⟨hr.1, hr.2⟩
        obtain ⟨n2, aw2, r1, r2, r3, r4⟩ := ih (L + 1) (n + 1) _ (by omega) (by omega) (by omega) hr2 hP
        refine ⟨n2, aw2, r1, r2, fun j j1 j2 j3 => ?_, r4⟩
        rw [r3 j j1 j2 j3]
        unfold au
        rw [va_up_ne _ _ j1, va_up_ne _ _ j2, va_up_ne _ _ j3]
      · rw [if_neg (by rw [hbit]; exact hw), show (1 : Int32) = nI 1 from rfl, nadd]
        exact ih (L + 1) n aw (by omega) (by omega) (by omega) hr (adj_skip hA (fun q => hw q.2))
