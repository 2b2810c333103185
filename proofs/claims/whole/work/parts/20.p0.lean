-- numbers: a small number as an int
theorem nle {a b : Nat} (ha : a < 2147483648) (hb : b < 2147483648) : (nI a ≤ nI b) = (a ≤ b) := propext (nI_leI ha hb)
theorem nlt {a b : Nat} (ha : a < 2147483648) (hb : b < 2147483648) : (nI a < nI b) = (a < b) := propext (nI_ltI ha hb)
theorem neq {a b : Nat} (ha : a < 2147483648) (hb : b < 2147483648) : (nI a = nI b) = (a = b) := propext (nI_eq ha hb)
theorem n0 {a : Nat} (ha : a < 2147483648) : (nI a < 0) = False := eq_false (nI_pos ha)
theorem n0le {a : Nat} (ha : a < 2147483648) : (0 ≤ nI a) = True := eq_true (nI_pos' ha)
theorem ncl {a : Nat} (ha : a < 2147483648) : (nI a).toNatClampNeg = a := nI_clamp ha
theorem nsub {a b : Nat} (h : b ≤ a) : nI a - nI b = nI (a - b) := pk_sub h
theorem nmul (a b : Nat) : nI a * nI b = nI (a * b) := pk_mul a b
theorem nadd (a b : Nat) : nI a + nI b = nI (a + b) := nI_add a b
theorem nz : (0 : Int32) = nI 0 := rfl
theorem n1 : (1 : Int32) = nI 1 := rfl
theorem n2 : (2 : Int32) = nI 2 := rfl
theorem n3 : (3 : Int32) = nI 3 := rfl
theorem n4 : (4 : Int32) = nI 4 := rfl
theorem n5 : (5 : Int32) = nI 5 := rfl
theorem n6 : (6 : Int32) = nI 6 := rfl
theorem n7 : (7 : Int32) = nI 7 := rfl
theorem n8 : (8 : Int32) = nI 8 := rfl
theorem n9 : (9 : Int32) = nI 9 := rfl
theorem n10 : (10 : Int32) = nI 10 := rfl
theorem n200 : (200 : Int32) = nI 200 := rfl
theorem n300 : (300 : Int32) = nI 300 := rfl
theorem n400 : (400 : Int32) = nI 400 := rfl
theorem n2000 : (2000 : Int32) = nI 2000 := rfl
theorem n20000 : (20000 : Int32) = nI 20000 := rfl
theorem nm1ne {a : Nat} (ha : a < 2147483648) : (nI a = -1) = False := eq_false fun h => by
  have h1 := congrArg Int32.toInt h
  rw [nI_toInt ha] at h1
  have h2 : (-1 : Int32).toInt = -1 := by decide
  omega
-- reading what was written
theorem upr {α : Type} (f : Nat → α) (k : Nat) (v : α) (j : Nat) : va_up f k v j = if j = k then v else f j := rfl
theorem aur (ar : mA) (k i : Nat) (x : Int32) (k2 j : Nat) : au ar k i x k2 j = if k2 = k then (if j = i then x else ar k j) else ar k2 j := by
  unfold au
  by_cases h : k2 = k
  · subst h
    rw [va_up_self, if_pos rfl]
    rfl
  · rw [va_up_ne _ _ h, if_neg h]
theorem obe {γ : Type} (r : Int32) (i : mI) (a : mA) (f : Int32 → mI → mA → Option γ) : ob (some (r, i, a)) f = f r i a := rfl
theorem obce {γ : Type} (r : Int32) (i : mI) (a : mA) (l : mL) (x y : mA) (f : Int32 → mI → mA → mL → mA → mA → Option γ) : obc (some (r, i, a, l, x, y)) f = f r i a l x y := rfl
-- bits of a small number
theorem bit_nz {l : Nat} (hl : l < 8) : ((nI l &&& 31).toBitVec.smod 32).toNat = l := by
  match l, hl with
  | 0, _ => decide
  | 1, _ => decide
  | 2, _ => decide
  | 3, _ => decide
  | 4, _ => decide
  | 5, _ => decide
  | 6, _ => decide
  | 7, _ => decide
theorem bit_get {m l : Nat} (hm : m < 256) (hl : l < 8) : (((nI m >>> (nI l &&& 31)) &&& 1) = 1) = (m.testBit l = true) := by
  rw [pk_shrN (by omega) _ l (bit_nz hl), pk_andN (by have := Nat.div_le_self m (2 ^ l); omega) 1 (by decide)]
  rw [show (1 : Int32) = nI 1 from rfl, neq (by omega) (by omega), Nat.testBit_eq_decide_div_mod_eq, decide_eq_true_eq]
theorem bit_get0 {m l : Nat} (hm : m < 256) (hl : l < 8) : (((nI m >>> (nI l &&& 31)) &&& 1) = 0) = (m.testBit l = false) := by
  rw [pk_shrN (by omega) _ l (bit_nz hl), pk_andN (by have := Nat.div_le_self m (2 ^ l); omega) 1 (by decide)]
  rw [show (0 : Int32) = nI 0 from rfl, neq (by omega) (by omega), Nat.testBit_eq_decide_div_mod_eq, decide_eq_false_iff_not]
  exact propext ⟨fun h => by omega, fun h => by omega⟩
theorem bit_1 {l : Nat} (hl : l < 8) : (1 : Int32) <<< (nI l &&& 31) = nI (2 ^ l) := by
  rw [show (1 : Int32) = nI 1 from rfl, pk_shlN _ l (bit_nz hl) (by have : 2 ^ l < 2 ^ 8 := Nat.pow_lt_pow_right (by decide) hl; omega), Nat.one_mul]
theorem nor_ {a b : Nat} (ha : a < 256) (hb : b < 256) : nI a ||| nI b = nI (a ||| b) := by
  apply Int32.toBitVec_inj.mp
  apply BitVec.eq_of_toNat_eq
  have h : a ||| b < 256 := Nat.or_lt_two_pow (n := 8) ha hb
  rw [Int32.toBitVec_or, BitVec.toNat_or, pk_tn (by omega), pk_tn (by omega), pk_tn (by omega)]
theorem nand_ {a b : Nat} (ha : a < 256) (hb : b < 256) : nI a &&& nI b = nI (a &&& b) := by
  apply Int32.toBitVec_inj.mp
  apply BitVec.eq_of_toNat_eq
  have h : a &&& b < 256 := Nat.and_lt_two_pow (n := 8) a hb
  rw [Int32.toBitVec_and, BitVec.toNat_and, pk_tn (by omega), pk_tn (by omega), pk_tn (by omega)]
-- numbers below nought that are answers
def m1 : Int32 := -1
def m2 : Int32 := -2
def m3 : Int32 := -3
theorem e_m1 : (-1 : Int32) = m1 := rfl
theorem e_m2 : (-2 : Int32) = m2 := rfl
theorem e_m3 : (-3 : Int32) = m3 := rfl
def m11 : Int32 := -11
def m12 : Int32 := -12
def m13 : Int32 := -13
def m14 : Int32 := -14
def m15 : Int32 := -15
def m16 : Int32 := -16
theorem e_m11 : (-11 : Int32) = m11 := rfl
theorem e_m12 : (-12 : Int32) = m12 := rfl
theorem e_m13 : (-13 : Int32) = m13 := rfl
theorem e_m14 : (-14 : Int32) = m14 := rfl
theorem e_m15 : (-15 : Int32) = m15 := rfl
theorem e_m16 : (-16 : Int32) = m16 := rfl
theorem nlit (n : Nat) : (OfNat.ofNat n : Int32) = nI n := rfl
theorem m1i : m1.toInt = -1 := by decide
theorem m1ne {a : Nat} (ha : a < 2147483648) : (nI a = m1) = False := nm1ne ha
theorem m1ne2 {a : Nat} (ha : a < 2147483648) : (m1 = nI a) = False := eq_false fun h => (nm1ne ha) ▸ (show nI a = -1 from h.symm)
theorem m1lt {a : Nat} (ha : a < 2147483648) : (m1 < nI a) = True := eq_true (by rw [Int32.lt_iff_toInt_lt, m1i, nI_toInt ha]; omega)
theorem m1le {a : Nat} (ha : a < 2147483648) : (m1 ≤ nI a) = True := eq_true (by rw [Int32.le_iff_toInt_le, m1i, nI_toInt ha]; omega)
theorem m1nle {a : Nat} (ha : a < 2147483648) : (nI a ≤ m1) = False := eq_false (by rw [Int32.le_iff_toInt_le, m1i, nI_toInt ha]; omega)
theorem m1nlt {a : Nat} (ha : a < 2147483648) : (nI a < m1) = False := eq_false (by rw [Int32.lt_iff_toInt_lt, m1i, nI_toInt ha]; omega)
theorem bitn {m l : Nat} (hm : m < 256) (hl : l < 8) : (((nI m >>> (nI l &&& nI 31)) &&& nI 1) = nI 1) = (m.testBit l = true) := bit_get hm hl
theorem bitn0 {m l : Nat} (hm : m < 256) (hl : l < 8) : (((nI m >>> (nI l &&& nI 31)) &&& nI 1) = nI 0) = (m.testBit l = false) := bit_get0 hm hl
theorem bit1n {l : Nat} (hl : l < 8) : nI 1 <<< (nI l &&& nI 31) = nI (2 ^ l) := bit_1 hl
