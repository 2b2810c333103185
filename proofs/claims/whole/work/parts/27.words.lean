-- a word of labels, shorter ones first, then by the first label that differs
def wlex : List Nat → List Nat → Prop
  | [], [] => True
  | x :: u, y :: v => x < y ∨ (x = y ∧ wlex u v)
  | _, _ => False
def wslex : List Nat → List Nat → Prop
  | x :: u, y :: v => x < y ∨ (x = y ∧ wslex u v)
  | _, _ => False
def wle (u v : List Nat) : Prop := u.length < v.length ∨ (u.length = v.length ∧ wlex u v)
def wlt (u v : List Nat) : Prop := u.length < v.length ∨ (u.length = v.length ∧ wslex u v)
theorem wlex_refl : ∀ u, wlex u u
  | [] => trivial
  | _ :: u => Or.inr ⟨rfl, wlex_refl u⟩
theorem wle_refl (u : List Nat) : wle u u := Or.inr ⟨rfl, wlex_refl u⟩
theorem wlex_trans : ∀ {u v w : List Nat}, wlex u v → wlex v w → wlex u w
  | [], [], [], _, _ => trivial
  | x :: u, y :: v, z :: w, h1, h2 => by
    rcases h1 with h1 | ⟨rfl, h1⟩ <;> rcases h2 with h2 | ⟨rfl, h2⟩
    · exact Or.inl (by omega)
    · exact Or.inl h1
    · exact Or.inl h2
    · exact Or.inr ⟨rfl, wlex_trans h1 h2⟩
  | [], _ :: _, _, h, _ => h.elim
  | _ :: _, [], _, h, _ => h.elim
  | [], [], _ :: _, _, h => h.elim
  | _ :: _, _ :: _, [], _, h => h.elim
theorem wle_trans {u v w : List Nat} (h1 : wle u v) (h2 : wle v w) : wle u w := by
  rcases h1 with h1 | ⟨h1, l1⟩ <;> rcases h2 with h2 | ⟨h2, l2⟩
  · exact Or.inl (by omega)
  · exact Or.inl (by omega)
  · exact Or.inl (by omega)
  · exact Or.inr ⟨by omega, wlex_trans l1 l2⟩
theorem wslex_le : ∀ {u v : List Nat}, u.length = v.length → wslex u v → wlex u v
  | [], _, _, h => h.elim
  | _ :: _, [], _, h => h.elim
  | x :: u, y :: v, hl, h => by
    rcases h with h | ⟨rfl, h⟩
    · exact Or.inl h
    · exact Or.inr ⟨rfl, wslex_le (by simpa using hl) h⟩
theorem wlt_le {u v : List Nat} (h : wlt u v) : wle u v := by
  rcases h with h | ⟨h1, h2⟩
  · exact Or.inl h
  · exact Or.inr ⟨h1, wslex_le h1 h2⟩
theorem wlex_app : ∀ {u v : List Nat} (w : List Nat), wlex u v → wlex (u ++ w) (v ++ w)
  | [], [], w, _ => wlex_refl w
  | x :: u, y :: v, w, h => by
    rcases h with h | ⟨rfl, h⟩
    · exact Or.inl h
    · exact Or.inr ⟨rfl, wlex_app w h⟩
  | [], _ :: _, _, h => h.elim
  | _ :: _, [], _, h => h.elim
theorem wle_app {u v : List Nat} (w : List Nat) (h : wle u v) : wle (u ++ w) (v ++ w) := by
  rcases h with h | ⟨h1, h2⟩
  · exact Or.inl (by simp; omega)
  · exact Or.inr ⟨by simp; omega, wlex_app w h2⟩
theorem wle_pre (u v : List Nat) : wle u (u ++ v) := by
  cases v with
  | nil => rw [List.append_nil]; exact wle_refl u
  | cons x v => exact Or.inl (by simp)
theorem wslex_app : ∀ {u v : List Nat} (a b : List Nat), wslex u v → wslex (u ++ a) (v ++ b)
  | x :: u, y :: v, a, b, h => by
    rcases h with h | ⟨rfl, h⟩
    · exact Or.inl h
    · exact Or.inr ⟨rfl, wslex_app a b h⟩
  | [], _, _, _, h => h.elim
  | _ :: _, [], _, _, h => h.elim
theorem wlt_app {u v : List Nat} {a b : Nat} (h : wlt u v) : wlt (u ++ [a]) (v ++ [b]) := by
  rcases h with h | ⟨h1, h2⟩
  · exact Or.inl (by simp; omega)
  · exact Or.inr ⟨by simp; omega, wslex_app [a] [b] h2⟩
theorem wslex_last : ∀ (u : List Nat) {a b : Nat}, a < b → wslex (u ++ [a]) (u ++ [b])
  | [], _, _, h => Or.inl h
  | _ :: u, _, _, h => Or.inr ⟨rfl, wslex_last u h⟩
theorem wlt_last (u : List Nat) {a b : Nat} (h : a < b) : wlt (u ++ [a]) (u ++ [b]) := Or.inr ⟨by simp, wslex_last u h⟩
theorem wlt_snoc (u : List Nat) (a : Nat) : wlt u (u ++ [a]) := Or.inl (by simp)
theorem wlt_trans {u v w : List Nat} (h1 : wlt u v) (h2 : wle v w) : wlt u w := by
  rcases h1 with h1 | ⟨h1, l1⟩ <;> rcases h2 with h2 | ⟨h2, l2⟩
  · exact Or.inl (by omega)
  · exact Or.inl (by omega)
  · exact Or.inl (by omega)
  · refine Or.inr ⟨by omega, ?_⟩
    clear h1 h2
    induction u generalizing v w with
    | nil => exact l1.elim
    | cons x u ih =>
      cases v with
      | nil => exact l1.elim
      | cons y v =>
        cases w with
        | nil => exact l2.elim
        | cons z w =>
          rcases l1 with l1 | ⟨rfl, l1⟩ <;> rcases l2 with l2 | ⟨rfl, l2⟩
          · exact Or.inl (by omega)
          · exact Or.inl l1
          · exact Or.inl l2
          · exact Or.inr ⟨rfl, ih l1 l2⟩
theorem wlex_antisymm : ∀ {u v : List Nat}, wlex u v → wlex v u → u = v
  | [], [], _, _ => rfl
  | x :: u, y :: v, h1, h2 => by
    rcases h1 with h1 | ⟨rfl, h1⟩ <;> rcases h2 with h2 | ⟨h3, h2⟩
    · omega
    · omega
    · omega
    · rw [wlex_antisymm h1 h2]
  | [], _ :: _, h, _ => h.elim
  | _ :: _, [], h, _ => h.elim
theorem wle_antisymm {u v : List Nat} (h1 : wle u v) (h2 : wle v u) : u = v := by
  rcases h1 with h1 | ⟨h1, l1⟩ <;> rcases h2 with h2 | ⟨h2, l2⟩
  · omega
  · omega
  · omega
  · exact wlex_antisymm l1 l2
-- two nodes: whether they fit at sight, the pair of their parts, the labels that count
def fitB (kd lb : Nat → Nat) (a b : Nat) : Bool := decide (kd a = 1) || decide (kd b = 0) || (decide (kd a = kd b) && (decide (kd a ≠ 5) || decide (lb b &&& lb a = lb b)) && (decide (kd a ≠ 6) || decide (lb a &&& lb b = lb a)))
def nxA (kd : Nat → Nat) (pt : Nat → Nat → Nat) (a b l : Nat) : Nat := if kd a = 4 ∧ l = 0 then pt b l else pt a l
def nxB (kd : Nat → Nat) (pt : Nat → Nat → Nat) (a b l : Nat) : Nat := if kd a = 4 ∧ l = 0 then pt a l else pt b l
def wl (lb : Nat → Nat) (a b l : Nat) : Bool := (lb a).testBit l && (lb b).testBit l
/-- a word leads from two nodes, all that fit on the way, to two nodes -/
def lead (kd lb : Nat → Nat) (pt : Nat → Nat → Nat) : List Nat → Nat → Nat → Nat → Nat → Prop
  | [], a, b, x, y => x = a ∧ y = b
  | l :: ws, a, b, x, y => fitB kd lb a b = true ∧ l < 8 ∧ wl lb a b l = true ∧ lead kd lb pt ws (nxA kd pt a b l) (nxB kd pt a b l) x y
theorem lead_snoc {kd lb : Nat → Nat} {pt : Nat → Nat → Nat} : ∀ {ws : List Nat} {a b x y l : Nat}, lead kd lb pt ws a b x y → fitB kd lb x y = true → l < 8 → wl lb x y l = true → lead kd lb pt (ws ++ [l]) a b (nxA kd pt x y l) (nxB kd pt x y l)
  | [], a, b, x, y, l, h, hf, hl, hw => by
    obtain ⟨rfl, rfl⟩ := h
    exact ⟨hf, hl, hw, rfl, rfl⟩
  | _ :: ws, a, b, x, y, l, h, hf, hl, hw => ⟨h.1, h.2.1, h.2.2.1, lead_snoc h.2.2.2 hf hl hw⟩
theorem lead_split {kd lb : Nat → Nat} {pt : Nat → Nat → Nat} : ∀ {ws : List Nat} {l a b x y : Nat}, lead kd lb pt (ws ++ [l]) a b x y → ∃ x0 y0, lead kd lb pt ws a b x0 y0 ∧ fitB kd lb x0 y0 = true ∧ l < 8 ∧ wl lb x0 y0 l = true ∧ x = nxA kd pt x0 y0 l ∧ y = nxB kd pt x0 y0 l
  | [], l, a, b, x, y, h => ⟨a, b, ⟨rfl, rfl⟩, h.1, h.2.1, h.2.2.1, h.2.2.2.1, h.2.2.2.2⟩
  | _ :: ws, l, a, b, x, y, h => by
    obtain ⟨x0, y0, h1, h2⟩ := lead_split (ws := ws) h.2.2.2
    exact ⟨x0, y0, ⟨h.1, h.2.1, h.2.2.1, h1⟩, h2⟩
/-- the least word to two nodes that do not fit -/
def isBad (kd lb : Nat → Nat) (pt : Nat → Nat → Nat) (a b : Nat) (ws : List Nat) : Prop := ∃ x y, lead kd lb pt ws a b x y ∧ fitB kd lb x y = false
def isLeast (kd lb : Nat → Nat) (pt : Nat → Nat → Nat) (a b : Nat) (ws : List Nat) : Prop := isBad kd lb pt a b ws ∧ ∀ v, isBad kd lb pt a b v → wle ws v
theorem lead_in {g : Nat} {kd lb : Nat → Nat} {pt : Nat → Nat → Nat} (hG : Gr g kd lb pt) : ∀ {ws : List Nat} {a b x y : Nat}, a < g → b < g → lead kd lb pt ws a b x y → x < g ∧ y < g
  | [], a, b, x, y, ha, hb, h => by obtain ⟨rfl, rfl⟩ := h; exact ⟨ha, hb⟩
  | l :: ws, a, b, x, y, ha, hb, h => by
    obtain ⟨h1, h2, h3, h4⟩ := h
    unfold wl at h3
    rw [Bool.and_eq_true] at h3
    have p1 := (hG a ha).2.2.2.2 l h2 h3.1
    have p2 := (hG b hb).2.2.2.2 l h2 h3.2
    refine lead_in hG ?_ ?_ h4
    · unfold nxA; split <;> assumption
    · unfold nxB; split <;> assumption
