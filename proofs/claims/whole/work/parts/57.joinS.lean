/-- the graph after a joining -/
def kdJ (f : Nat) (kd : Nat → Nat) (th ta tb : Nat → Nat) (k : Nat) : Nat := if k < f then kd k else jkind kd (th k) (ta k) (tb k)
def lbJ (f : Nat) (kd lb : Nat → Nat) (th ta tb : Nat → Nat) (k : Nat) : Nat := if k < f then lb k else jlab kd lb (th k) (ta k) (tb k)
def ptJ (f : Nat) (lb : Nat → Nat) (pt : Nat → Nat → Nat) (ta tb : Nat → Nat) (rs : Nat → Nat → Nat) (k l : Nat) : Nat := if k < f then pt k l else jtgt lb pt ta tb rs k l
theorem end_graph {f n : Nat} {kd lb : Nat → Nat} {pt : Nat → Nat → Nat} {th ta tb P : Nat → Nat} {rs : Nat → Nat → Nat} {iv : mI} {ar : mA} {iw : mI} {aw : mA} (hGr : Gr f kd lb pt) (hG : jG f n kd lb pt th ta tb P rs []) (hC : jC f n kd lb pt th ta tb P P rs [] iv ar) (hR : jR f n kd lb pt th ta tb P rs [] iw aw) :
    Gr n (kdJ f kd th ta tb) (lbJ f kd lb th ta tb) (ptJ f lb pt ta tb rs) ∧ cG n (kdJ f kd th ta tb) (lbJ f kd lb th ta tb) (ptJ f lb pt ta tb rs) iv ar ∧ rG n (kdJ f kd th ta tb) (lbJ f kd lb th ta tb) (ptJ f lb pt ta tb rs) iw aw := by
  obtain ⟨⟨g1, g2⟩, g3, g4, g5, g6, g7⟩ := hG
  obtain ⟨⟨c1, c2, c3⟩, c4, c5, c6⟩ := hC
  obtain ⟨⟨r1, r2, r3⟩, r4, r5, r6⟩ := hR
  refine ⟨fun k hk => ?_, ⟨c1, fun k hk => ?_⟩, ⟨r1, fun k hk => ?_⟩⟩
  · unfold kdJ lbJ ptJ
    by_cases q : k < f
    · simp only [if_pos q]
      obtain ⟨a1, a2, a3, a4, a5⟩ := hGr k q
      exact ⟨a1, a2, a3, a4, fun l hl hb => Nat.lt_of_lt_of_le (a5 l hl hb) g1⟩
    · simp only [if_neg q]
      have q : f ≤ k := by omega
      obtain ⟨b1, b2, b3, b4, b5, b6⟩ := g3 k q hk
      have ka := hGr _ b2
      have kb := hGr _ b3
      refine ⟨by unfold jkind; split <;> omega, jlab_lt ka.2.1 kb.2.1, fun h4 => by unfold jlab; rw [if_pos h4], fun h4 => by unfold jlab; rw [if_neg (by omega), if_pos h4], fun l hl hb => ?_⟩
      unfold jtgt
      by_cases hbt : jboth lb (ta k) (tb k) l = true
      · rw [if_pos hbt]
        have hbb := hbt
        unfold jboth at hbb
        rw [Bool.and_eq_true] at hbb
        rcases b6 l hl (by rw [g7 k q hk (List.not_mem_nil)]; exact hl) hb hbt with e | ⟨_, e, _⟩
        · have := jsim_in (ka.2.2.2.2 l hl hbb.1) (kb.2.2.2.2 l hl hbb.2) e
          omega
        · exact e
      · rw [if_neg hbt]
        by_cases x : (lb (ta k)).testBit l = true
        · rw [if_pos x]
          have := ka.2.2.2.2 l hl x
          omega
        · rw [if_neg x]
          have := kb.2.2.2.2 l hl ((jlab_or hGr b1 b2 b3 hb).resolve_left x)
          omega
  · unfold kdJ lbJ ptJ
    by_cases q : k < f
    · simp only [if_pos q]
      exact c4 k q
    · simp only [if_neg q]
      have q : f ≤ k := by omega
      obtain ⟨d1, d2, d3, d4⟩ := c5 k q hk
      obtain ⟨b1, b2, b3, -⟩ := g3 k q hk
      rw [g7 k q hk List.not_mem_nil] at d2 d3
      rw [Nat.mod_eq_of_lt (show jlab kd lb (th k) (ta k) (tb k) < 2 ^ 8 from jlab_lt (hGr _ b2).2.1 (hGr _ b3).2.1)] at d2
      exact ⟨d1, d2, fun l hl hb => d3 l hl hl hb⟩
  · unfold kdJ lbJ ptJ
    by_cases q : k < f
    · simp only [if_pos q]
      exact r4 k q
    · simp only [if_neg q]
      have q : f ≤ k := by omega
      obtain ⟨d1, d2, d3, d4⟩ := r5 k q hk
      exact ⟨d1, d2, fun l hl hb => d3 l hl hb (fun _ => by rw [g7 k q hk List.not_mem_nil]; exact hl)⟩
