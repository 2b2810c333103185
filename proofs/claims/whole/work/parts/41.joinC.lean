def jlab (kd lb : Nat → Nat) (h a b : Nat) : Nat := if jkind kd h a b < 4 then 0 else if jkind kd h a b = 4 then 3 else if (jkind kd h a b = 5 ∧ h = 0) ∨ (jkind kd h a b = 6 ∧ h = 1) then lb a &&& lb b else lb a ||| lb b
def jboth (lb : Nat → Nat) (a b l : Nat) : Bool := (lb a).testBit l && (lb b).testBit l
/-- the part of a made node: of two that both have it what came of them, else the one's -/
def jtgt (lb : Nat → Nat) (pt : Nat → Nat → Nat) (ta tb : Nat → Nat) (rs : Nat → Nat → Nat) (m l : Nat) : Nat := if jboth lb (ta m) (tb m) l = true then rs m l else if (lb (ta m)).testBit l = true then pt (ta m) l else pt (tb m) l
def jsub (kd : Nat → Nat) (h a l : Nat) : Nat := if kd a = 4 ∧ l = 0 then 1 - h else h
/-- the class's rows of open nodes, the innermost first -/
def stkC (ar : mA) (P : Nat → Nat) : List Nat → Prop
  | [] => True
  | o :: os => ar 2 os.length = nI o ∧ ar 3 os.length = nI (P o) ∧ stkC ar P os
/-- the reference's asks, the next first: how, a, b, of, label -/
abbrev Ask : Type := Nat × Nat × Nat × Nat × Nat
def stkR (aw : mA) : List Ask → Prop
  | [] => True
  | q :: qs => aw 12 qs.length = nI q.1 ∧ aw 13 qs.length = nI q.2.1 ∧ aw 14 qs.length = nI q.2.2.1 ∧ aw 15 qs.length = nI q.2.2.2.1 ∧ aw 16 qs.length = nI q.2.2.2.2 ∧ stkR aw qs
/-- the asks that are left of a made node from label p on -/
def jal (kd lb : Nat → Nat) (pt : Nat → Nat → Nat) (th ta tb : Nat → Nat) (o p : Nat) : List Ask := ((List.range 8).filter (fun l => decide (p ≤ l) && jboth lb (ta o) (tb o) l)).map (fun l => (jsub kd (th o) (ta o) l, pt (ta o) l, pt (tb o) l, o, l))
def jasks (kd lb : Nat → Nat) (pt : Nat → Nat → Nat) (th ta tb P : Nat → Nat) (os : List Nat) : List Ask := os.flatMap (fun o => jal kd lb pt th ta tb o (P o))
/-- what comes of two: one that is there, or the node made for them -/
def jrs (f n : Nat) (kd : Nat → Nat) (th ta tb : Nat → Nat) (h a b r : Nat) : Prop := jsim kd h a b = some r ∨ (f ≤ r ∧ r < n ∧ th r = h ∧ ta r = a ∧ tb r = b)
/-- what was made up to now -/
def jG (f n : Nat) (kd lb : Nat → Nat) (pt : Nat → Nat → Nat) (th ta tb P : Nat → Nat) (rs : Nat → Nat → Nat) (os : List Nat) : Prop :=
  (f ≤ n ∧ n ≤ 200) ∧ (∀ m, f ≤ m → m < n → th m < 2 ∧ ta m < f ∧ tb m < f ∧ jsim kd (th m) (ta m) (tb m) = none ∧ P m ≤ 8 ∧ ∀ l, l < 8 → l < P m → (jlab kd lb (th m) (ta m) (tb m)).testBit l = true → jboth lb (ta m) (tb m) l = true → jrs f n kd th ta tb (jsub kd (th m) (ta m) l) (pt (ta m) l) (pt (tb m) l) (rs m l)) ∧
  (∀ m m2, f ≤ m → m < n → f ≤ m2 → m2 < n → th m = th m2 → ta m = ta m2 → tb m = tb m2 → m = m2) ∧
  (∀ o, o ∈ os → f ≤ o ∧ o < n ∧ 4 ≤ jkind kd (th o) (ta o) (tb o)) ∧ os.Nodup ∧ (∀ m, f ≤ m → m < n → m ∉ os → P m = 8)
def jC (f n : Nat) (kd lb : Nat → Nat) (pt : Nat → Nat → Nat) (th ta tb P Q : Nat → Nat) (rs : Nat → Nat → Nat) (os : List Nat) (iv : mI) (ar : mA) : Prop :=
  (iv 303 = nI n ∧ iv 5 = nI f ∧ iv 4 = nI os.length) ∧ (∀ k, k < f → ar 300 k = nI (kd k) ∧ ar 301 k = nI (lb k) ∧ ∀ l, l < 8 → (lb k).testBit l = true → ar 302 (k * 8 + l) = nI (pt k l)) ∧
  (∀ m, f ≤ m → m < n → ar 300 m = nI (jkind kd (th m) (ta m) (tb m)) ∧ ar 301 m = nI (jlab kd lb (th m) (ta m) (tb m) % 2 ^ P m) ∧ (∀ l, l < 8 → l < P m → (jlab kd lb (th m) (ta m) (tb m)).testBit l = true → ar 302 (m * 8 + l) = nI (jtgt lb pt ta tb rs m l)) ∧ ar 1 m = nI (jk (th m) (ta m) (tb m))) ∧ stkC ar Q os
def jR (f n : Nat) (kd lb : Nat → Nat) (pt : Nat → Nat → Nat) (th ta tb P : Nat → Nat) (rs : Nat → Nat → Nat) (qs : List Ask) (iw : mI) (aw : mA) : Prop :=
  (iw 3 = nI n ∧ iw 22 = nI (n - f) ∧ iw 17 = nI qs.length) ∧ (∀ k, k < f → aw 4 k = nI (kd k) ∧ aw 5 k = nI (lb k) ∧ ∀ l, l < 8 → (lb k).testBit l = true → aw 6 (8 * k + l) = nI (pt k l)) ∧
  (∀ m, f ≤ m → m < n → aw 4 m = nI (jkind kd (th m) (ta m) (tb m)) ∧ aw 5 m = nI (jlab kd lb (th m) (ta m) (tb m)) ∧ (∀ l, l < 8 → (jlab kd lb (th m) (ta m) (tb m)).testBit l = true → (jboth lb (ta m) (tb m) l = true → l < P m) → aw 6 (8 * m + l) = nI (jtgt lb pt ta tb rs m l)) ∧ aw 18 (m - f) = nI (th m) ∧ aw 19 (m - f) = nI (ta m) ∧ aw 20 (m - f) = nI (tb m) ∧ aw 21 (m - f) = nI m) ∧ stkR aw qs
theorem madeFor_loop {f n : Nat} {kd lb : Nat → Nat} {pt : Nat → Nat → Nat} {th ta tb P Q : Nat → Nat} {rs : Nat → Nat → Nat} {os : List Nat} {iv : mI} {ar : mA} {la : mL} {pA pB : mA} (hG : jG f n kd lb pt th ta tb P rs os) (hC : jC f n kd lb pt th ta tb P Q rs os iv ar) {h a b : Nat} (hh : h < 2) (ha : a < f) (hb : b < f) : ∀ (fu m : Nat), n < m + fu → f ≤ m → m ≤ n → (∀ k, f ≤ k → k < m → ¬ (th k = h ∧ ta k = a ∧ tb k = b)) →
    (∃ k, f ≤ k ∧ k < n ∧ th k = h ∧ ta k = a ∧ tb k = b ∧ mX0_madeFor_L5 fu (nI (jk h a b)) (nI m) iv ar la pA pB = some (nI k, iv, ar, la, pA, pB)) ∨ ((∀ k, f ≤ k → k < n → ¬ (th k = h ∧ ta k = a ∧ tb k = b)) ∧ mX0_madeFor_L5 fu (nI (jk h a b)) (nI m) iv ar la pA pB = some (m1, iv, ar, la, pA, pB)) := by
  obtain ⟨⟨g1, g2⟩, g3, -⟩ := hG
  obtain ⟨⟨c1, -, -⟩, -, c4, -⟩ := hC
  intro fu
  induction fu with
  | zero => intro m h1 h2 h3; omega
  | succ fu ih =>
    intro m h1 h2 h3 hno
    unfold mX0_madeFor_L5 mX3_size
    rw [obce, c1]
    by_cases hm : m = n
    · subst hm
      refine Or.inr ⟨hno, ?_⟩
      rw [if_pos (nI_le (Nat.le_refl m) (by omega))]
      rfl
    · have hlt : m < n := by omega
      obtain ⟨t1, t2, t3, -⟩ := g3 m h2 hlt
      have hkey := (c4 m h2 hlt).2.2.2
      rw [if_neg (nI_ge hlt (by omega)), if_neg (show ¬ (200 : Int32) ≤ nI m from nI_ge (show m < 200 by omega) (by decide)), if_neg (nI_in (by omega) (by omega)), ncl (by omega), hkey]
      by_cases hs : th m = h ∧ ta m = a ∧ tb m = b
      · obtain ⟨rfl, rfl, rfl⟩ := hs
        rw [if_pos rfl]
        exact Or.inl ⟨m, h2, hlt, rfl, rfl, rfl, rfl⟩
      · rw [if_neg, show (1 : Int32) = nI 1 from rfl, nadd]
        · refine ih (m + 1) (by omega) (by omega) (by omega) (fun k k1 k2 => ?_)
          by_cases e : k = m
          · subst e; exact hs
          · exact hno k k1 (by omega)
        · intro e
          rw [neq (by unfold jk; omega) (by unfold jk; omega)] at e
          exact hs (jk_inj (by omega) (by omega) (by omega) (by omega) e)
theorem findMade_loop {f n : Nat} {kd lb : Nat → Nat} {pt : Nat → Nat → Nat} {th ta tb P : Nat → Nat} {rs : Nat → Nat → Nat} {os : List Nat} {qs : List Ask} {iw : mI} {aw : mA} (hG : jG f n kd lb pt th ta tb P rs os) (hR : jR f n kd lb pt th ta tb P rs qs iw aw) {h a b : Nat} (hh : h < 2) (ha : a < f) (hb : b < f) : ∀ (fu m : Nat), n < m + fu → f ≤ m → m ≤ n → (∀ k, f ≤ k → k < m → ¬ (th k = h ∧ ta k = a ∧ tb k = b)) →
    (∃ k, f ≤ k ∧ k < n ∧ th k = h ∧ ta k = a ∧ tb k = b ∧ mX12_findMade_L3 fu (nI h) (nI a) (nI b) (nI (m - f)) iw aw = some (nI k, iw, aw)) ∨ ((∀ k, f ≤ k → k < n → ¬ (th k = h ∧ ta k = a ∧ tb k = b)) ∧ mX12_findMade_L3 fu (nI h) (nI a) (nI b) (nI (m - f)) iw aw = some (m1, iw, aw)) := by
  obtain ⟨⟨g1, g2⟩, g3, -⟩ := hG
  obtain ⟨⟨-, r22, -⟩, -, r4, -⟩ := hR
  intro fu
  induction fu with
  | zero => intro m h1 h2 h3; omega
  | succ fu ih =>
    intro m h1 h2 h3 hno
    unfold mX12_findMade_L3
    rw [r22]
    by_cases hm : m = n
    · subst hm
      refine Or.inr ⟨hno, ?_⟩
      rw [if_pos (nI_le (Nat.le_refl _) (by omega))]
      rfl
    · have hlt : m < n := by omega
      obtain ⟨t1, t2, t3, -⟩ := g3 m h2 hlt
      obtain ⟨-, -, -, k1, k2, k3, k4⟩ := r4 m h2 hlt
      have hin : ¬ (nI (m - f) < 0 ∨ 400 ≤ (nI (m - f)).toNatClampNeg) := nI_in (by omega) (by omega)
      rw [if_neg (nI_ge (show m - f < n - f by omega) (by omega))]
      simp only [hin, if_false]
      rw [ncl (by omega), k1, k2, k3, k4, show (1 : Int32) = nI 1 from rfl, nadd, show m - f + 1 = (m + 1) - f by omega]
      have go : ¬ (th m = h ∧ ta m = a ∧ tb m = b) → (∃ k, f ≤ k ∧ k < n ∧ th k = h ∧ ta k = a ∧ tb k = b ∧ mX12_findMade_L3 fu (nI h) (nI a) (nI b) (nI (m + 1 - f)) iw aw = some (nI k, iw, aw)) ∨ ((∀ k, f ≤ k → k < n → ¬ (th k = h ∧ ta k = a ∧ tb k = b)) ∧ mX12_findMade_L3 fu (nI h) (nI a) (nI b) (nI (m + 1 - f)) iw aw = some (m1, iw, aw)) := by
        intro hs
        refine ih (m + 1) (by omega) (by omega) (by omega) (fun k k1 k2 => ?_)
        by_cases e : k = m
        · subst e; exact hs
        · exact hno k k1 (by omega)
      by_cases s1 : th m = h
      · by_cases s2 : ta m = a
        · by_cases s3 : tb m = b
          · rw [if_pos (by rw [s1]), if_pos (by rw [s2]), if_pos (by rw [s3])]
            exact Or.inl ⟨m, h2, hlt, s1, s2, s3, rfl⟩
          · rw [if_pos (by rw [s1]), if_pos (by rw [s2]), if_neg (by rw [neq (by omega) (by omega)]; exact s3)]
            exact go (fun z => s3 z.2.2)
        · rw [if_pos (by rw [s1]), if_neg (by rw [neq (by omega) (by omega)]; exact s2)]
          exact go (fun z => s2 z.2.1)
      · rw [if_neg (by rw [neq (by omega) (by omega)]; exact s1)]
        exact go (fun z => s1 z.1)
