/-- the packing of an entry of the queue -/
def qP (f l a b : Nat) : Nat := f * 524288 + l * 65536 + a * 256 + b
theorem l_hi {x : Nat} (h : x < 2 ^ 62) : (((lN x >>> ((8 : Int32).toInt64 &&& 63)) &&& 255).toInt32) = nI (x / 256 % 256) := by
  rw [pf_shr (d := 8) (by decide +kernel) h, show (255 : Int64) = lN (2 ^ 8 - 1) from rfl, wb_mask (by have := Nat.div_le_self x (2 ^ 8); omega) (by decide), lN_i]
theorem l_lo {x : Nat} (h : x < 2 ^ 62) : ((lN x &&& 255).toInt32) = nI (x % 256) := by
  rw [show (255 : Int64) = lN (2 ^ 8 - 1) from rfl, wb_mask (by omega) (by decide), lN_i]
theorem l_fr {x : Nat} (h : x < 2 ^ 62) : ((lN x >>> ((19 : Int32).toInt64 &&& 63)).toInt32) = nI (x / 524288) := by
  rw [pf_shr (d := 19) (by decide +kernel) h, lN_i]
theorem l_la {x : Nat} (h : x < 2 ^ 62) : (((lN x >>> ((16 : Int32).toInt64 &&& 63)) &&& 7).toInt32) = nI (x / 65536 % 8) := by
  rw [pf_shr (d := 16) (by decide +kernel) h, show (7 : Int64) = lN (2 ^ 3 - 1) from rfl, wb_mask (by have := Nat.div_le_self x (2 ^ 16); omega) (by decide), lN_i]
theorem l_pack {f l a b : Nat} (hf : f < 100000) (hl : l < 8) (ha : a < 256) (hb : b < 256) : (((((nI f).toInt64 <<< ((19 : Int32).toInt64 &&& 63)) ||| ((nI l).toInt64 <<< ((16 : Int32).toInt64 &&& 63))) ||| ((nI a).toInt64 <<< ((8 : Int32).toInt64 &&& 63))) ||| (nI b).toInt64) = lN (qP f l a b) := by
  rw [nI_l (by omega), nI_l (by omega), nI_l (by omega), nI_l (by omega)]
  rw [show (19 : Int32) = nI 19 from rfl, show (16 : Int32) = nI 16 from rfl, show (8 : Int32) = nI 8 from rfl]
  rw [wb_shl f (by decide), wb_shl l (by decide), wb_shl a (by decide)]
  have e1 : lN (f * 2 ^ 19) ||| lN (l * 2 ^ 16) = lN (f * 2 ^ 19 + l * 2 ^ 16) := by
    rw [show f * 2 ^ 19 = f * 524288 from rfl]
    exact g_or (k := 19) (p := 524288) (by decide) (by omega) (by omega)
  rw [e1]
  have e2 : lN (f * 2 ^ 19 + l * 2 ^ 16) ||| lN (a * 2 ^ 8) = lN (f * 2 ^ 19 + l * 2 ^ 16 + a * 2 ^ 8) := by
    rw [show f * 2 ^ 19 + l * 2 ^ 16 = (f * 8 + l) * 65536 by omega]
    exact g_or (k := 16) (p := 65536) (by decide) (by omega) (by omega)
  rw [e2]
  have e3 : lN (f * 2 ^ 19 + l * 2 ^ 16 + a * 2 ^ 8) ||| lN b = lN (f * 2 ^ 19 + l * 2 ^ 16 + a * 2 ^ 8 + b) := by
    rw [show f * 2 ^ 19 + l * 2 ^ 16 + a * 2 ^ 8 = ((f * 8 + l) * 256 + a) * 256 by omega]
    exact g_or (k := 8) (p := 256) (by decide) (by omega) (by omega)
  rw [e3]
  rfl
theorem qP_lt {f l a b : Nat} (hf : f < 100000) (hl : l < 8) (ha : a < 256) (hb : b < 256) : qP f l a b < 2 ^ 62 := by
  unfold qP; omega
theorem qP_a {f l a b : Nat} (hl : l < 8) (ha : a < 256) (hb : b < 256) : qP f l a b / 256 % 256 = a := by unfold qP; omega
theorem qP_b {f l a b : Nat} (hl : l < 8) (ha : a < 256) (hb : b < 256) : qP f l a b % 256 = b := by unfold qP; omega
theorem qP_l {f l a b : Nat} (hl : l < 8) (ha : a < 256) (hb : b < 256) : qP f l a b / 65536 % 8 = l := by unfold qP; omega
theorem qP_f {f l a b : Nat} (hl : l < 8) (ha : a < 256) (hb : b < 256) : qP f l a b / 524288 = f := by unfold qP; omega
/-- one bit of a long -/
def sb (w : Int64) (j : Nat) : Bool := w.toBitVec.getLsbD j
theorem sb_0 (j : Nat) : sb 0 j = false := by simp [sb]
theorem sb_nz {w : Int64} (h : w ≠ 0) : ∃ j, j < 64 ∧ sb w j = true := by
  apply Classical.byContradiction
  intro hn
  apply h
  apply Int64.toBitVec_inj.mp
  apply BitVec.eq_of_getLsbD_eq
  intro i hi
  cases hb : w.toBitVec.getLsbD i with
  | true => exact absurd ⟨i, hi, hb⟩ hn
  | false => simp
theorem sb_pw {j : Nat} (hj : j < 64) : (lN (2 ^ j)).toBitVec = BitVec.twoPow 64 j := by
  rw [wb_tb]
  apply BitVec.eq_of_toNat_eq
  rw [BitVec.toNat_twoPow, BitVec.toNat_ofNat]
theorem sb_set {w : Int64} {i j : Nat} (hj : j < 64) (hi : i < 64) : sb (w ||| lN (2 ^ j)) i = (sb w i || decide (j = i)) := by
  unfold sb
  rw [Int64.toBitVec_or, sb_pw hj, BitVec.getLsbD_or, BitVec.getLsbD_twoPow]
  simp [hj]
theorem sb_test {w : Int64} {j : Nat} (hj : j < 64) : (lg_cmp (w &&& lN (2 ^ j)) 0 = 0) = (sb w j = false) := by
  have h1 : (w &&& lN (2 ^ j) = 0) ↔ sb w j = false := by
    rw [← Int64.toBitVec_inj, Int64.toBitVec_and, sb_pw hj]
    constructor
    · intro h
      have t := congrArg (fun x => x.getLsbD j) h
      simpa [sb, hj, BitVec.getLsbD_twoPow] using t
    · intro h
      apply BitVec.eq_of_getLsbD_eq
      intro i hi
      rw [BitVec.getLsbD_and, BitVec.getLsbD_twoPow]
      by_cases e : j = i
      · subst e
        have h2 : w.toBitVec.getLsbD j = false := h
        simp [h2]
      · simp [e]
  apply propext
  rw [← h1]
  unfold lg_cmp
  constructor
  · intro h
    by_cases h2 : w &&& lN (2 ^ j) > 0
    · rw [if_pos h2] at h; exact absurd h (by decide)
    · rw [if_neg h2] at h
      by_cases h3 : w &&& lN (2 ^ j) = 0
      · exact h3
      · rw [if_neg h3] at h; exact absurd h (by decide)
  · intro h
    rw [h]
    decide
theorem l_bit {p : Nat} (hp : p < 2147483648) : (1 : Int64) <<< ((nI p &&& 63).toInt64 &&& 63) = lN (2 ^ (p % 64)) := by
  have h6 : nI p &&& 63 = nI (p % 64) := pk_andN (by omega) 6 (by decide)
  have h7 : p % 64 < 64 := Nat.mod_lt _ (by decide)
  rw [h6, show (1 : Int64) = lN 1 from rfl, wb_shl 1 h7, Nat.one_mul]
theorem l_word {p : Nat} (hp : p < 2147483648) : nI p >>> ((6 : Int32) &&& 31) = nI (p / 64) := pk_shrN hp _ 6 (by decide)
theorem lur (la : mL) (k i : Nat) (x : Int64) (k2 j : Nat) : lu la k i x k2 j = if k2 = k then (if j = i then x else la k j) else la k2 j := by
  unfold lu
  by_cases h : k2 = k
  · subst h
    rw [va_up_self, if_pos rfl]
    rfl
  · rw [va_up_ne _ _ h, if_neg h]
