section
variable {l : Launch} {p : Program} {e : Env} {s : State} {m : MethodId} {args : Array Value} {below : List Frame} {meth : Method} {c : Code} {D : va_G} {cI cJ : ClassId} {A : Nat → Prop} {o : Nat} {ad : Nat → Nat}
def mX12_join_J170 (k28 : Int32 → Int32 → mI → mA → Option (Int32 × mI × mA)) (l4 : Int32) (l5 : Int32) (l6 : Int32) (l7 : Int32) (l11 : Int32) (iv : mI) (ar : mA) : Option (Int32 × mI × mA) := if l6 < 0 then k28 l4 l11 iv ar else if ((8 * l6) + l7) < 0 ∨ 3200 ≤ ((8 * l6) + l7).toNatClampNeg then none else k28 l4 l5 iv (au ar 6 ((8 * l6) + l7).toNatClampNeg l11)
set_option maxRecDepth 100000 in
set_option maxHeartbeats 4000000 in
theorem wX12_join_J170 {k28 : Int32 → Int32 → mI → mA → Option (Int32 × mI × mA)} (C : mCx p s m args meth c RX12 cX12_join 12 (some .int) D cI cJ A) (hk28 : ∀ (l4 : Int32) (l5 : Int32) (iv : mI) (ar : mA) (rz : Int32) (ivz : mI) (arz : mA), k28 l4 l5 iv ar = some (rz, ivz, arz) → ∀ (H : Heap) (locs : List Loc) (ls : Array Slot), lv_has ls 12 [(0, .ref o), (4, .int l4), (5, .int l5)] → inW D A s (wM cI o ad iv ar) H locs → W p l e (rmO 2 58) s m args below meth c H locs 0 0 (MQ below (ctQ D cI cJ (wM cI o ad ivz arz) A rz) args s 0 0 A) (F0 m 28 ls [])) : ∀ (l4 : Int32) (l5 : Int32) (l6 : Int32) (l7 : Int32) (l11 : Int32) (iv : mI) (ar : mA) (rz : Int32) (ivz : mI) (arz : mA), mX12_join_J170 k28 l4 l5 l6 l7 l11 iv ar = some (rz, ivz, arz) → ∀ (H : Heap) (locs : List Loc) (ls : Array Slot), lv_has ls 12 [(0, .ref o), (4, .int l4), (5, .int l5), (6, .int l6), (7, .int l7), (11, .int l11)] → inW D A s (wM cI o ad iv ar) H locs → W p l e (rmO 2 58) s m args below meth c H locs 0 0 (MQ below (ctQ D cI cJ (wM cI o ad ivz arz) A rz) args s 0 0 A) (F0 m 170 ls []) := by
  intro l4 l5 l6 l7 l11 iv ar rz ivz arz hm H locs ls hl hw
  have hx := C.1.1
  have hb := C.1.2.1
  unfold mX12_join_J170 at hm
  refine lv_iload hx hb dX12_join_170 (lv_at hl 3 rfl) ?_
  refine lv_if_lt (tgt := 193) hx hb dX12_join_172 (by decide) (fun hc => ?_) (fun hc => ?_)
  · have hm := it_t hc hm
    refine lv_iload hx hb dX12_join_193 (lv_at hl 5 rfl) ?_
    refine lv_istore (lv' := [(5, .int l11), (0, .ref o), (4, .int l4), (6, .int l6), (7, .int l7), (11, .int l11)]) hx hb dX12_join_195 hl (by decide) rfl (fun ls hl => ?_)
    refine lv_goto (tgt := 28) hx hb dX12_join_197 (by decide) ?_
    exact hk28 _ _ _ _ _ _ _ hm _ _ _ (lv_sub hl [1, 2, 0] rfl) hw
  · have hm := it_f hc hm
    refine lv_aload_n hx hb dX12_join_175 rfl (lv_at hl 0 rfl) ?_
    refine g_get C hw gM_6 dX12_join_176 ?_
    refine lv_bipush (v := 8) hx hb dX12_join_179 cb_8 ?_
    refine lv_iload hx hb dX12_join_181 (lv_at hl 3 rfl) ?_
    refine lv_imul hx hb dX12_join_183 ?_
    refine lv_iload hx hb dX12_join_184 (lv_at hl 4 rfl) ?_
    refine lv_iadd hx hb dX12_join_186 ?_
    refine lv_iload hx hb dX12_join_187 (lv_at hl 5 rfl) ?_
    obtain ⟨hi, hm⟩ := it_a hm
    refine g_ast C hw sM_6 hi dX12_join_189 (fun H locs hw => ?_)
    refine lv_goto (tgt := 197) hx hb dX12_join_190 (by decide) ?_
    refine lv_goto (tgt := 28) hx hb dX12_join_197 (by decide) ?_
    exact hk28 _ _ _ _ _ _ _ hm _ _ _ (lv_sub hl [0, 1, 2] rfl) hw
def mX12_join_J132 (k28 : Int32 → Int32 → mI → mA → Option (Int32 × mI × mA)) (l4 : Int32) (l5 : Int32) (l6 : Int32) (l7 : Int32) (l8 : Int32) (l9 : Int32) (l10 : Int32) (s0 : Int32) (iv : mI) (ar : mA) : Option (Int32 × mI × mA) := if 0 ≤ s0 then mX12_join_J170 k28 l4 l5 l6 l7 s0 iv ar else if (iv 3) < 200 then ob (mX12_make l8 l9 l10 iv ar) (fun r165 iv165 ar165 => mX12_join_J170 k28 l4 l5 l6 l7 r165 iv165 ar165) else some ((-3), va_up iv 3 l4, ar)
set_option maxRecDepth 100000 in
set_option maxHeartbeats 4000000 in
theorem wX12_join_J132 {k28 : Int32 → Int32 → mI → mA → Option (Int32 × mI × mA)} (C : mCx p s m args meth c RX12 cX12_join 12 (some .int) D cI cJ A) (hk28 : ∀ (l4 : Int32) (l5 : Int32) (iv : mI) (ar : mA) (rz : Int32) (ivz : mI) (arz : mA), k28 l4 l5 iv ar = some (rz, ivz, arz) → ∀ (H : Heap) (locs : List Loc) (ls : Array Slot), lv_has ls 12 [(0, .ref o), (4, .int l4), (5, .int l5)] → inW D A s (wM cI o ad iv ar) H locs → W p l e (rmO 2 58) s m args below meth c H locs 0 0 (MQ below (ctQ D cI cJ (wM cI o ad ivz arz) A rz) args s 0 0 A) (F0 m 28 ls [])) : ∀ (l4 : Int32) (l5 : Int32) (l6 : Int32) (l7 : Int32) (l8 : Int32) (l9 : Int32) (l10 : Int32) (s0 : Int32) (iv : mI) (ar : mA) (rz : Int32) (ivz : mI) (arz : mA), mX12_join_J132 k28 l4 l5 l6 l7 l8 l9 l10 s0 iv ar = some (rz, ivz, arz) → ∀ (H : Heap) (locs : List Loc) (ls : Array Slot), lv_has ls 12 [(0, .ref o), (4, .int l4), (5, .int l5), (6, .int l6), (7, .int l7), (8, .int l8), (9, .int l9), (10, .int l10)] → inW D A s (wM cI o ad iv ar) H locs → W p l e (rmO 2 58) s m args below meth c H locs 0 0 (MQ below (ctQ D cI cJ (wM cI o ad ivz arz) A rz) args s 0 0 A) (F0 m 132 ls [.int s0]) := by
  intro l4 l5 l6 l7 l8 l9 l10 s0 iv ar rz ivz arz hm H locs ls hl hw
  have hx := C.1.1
  have hb := C.1.2.1
  unfold mX12_join_J132 at hm
  refine lv_istore (lv' := [(11, .int s0), (0, .ref o), (4, .int l4), (5, .int l5), (6, .int l6), (7, .int l7), (8, .int l8), (9, .int l9), (10, .int l10)]) hx hb dX12_join_132 hl (by decide) rfl (fun ls hl => ?_)
  refine lv_iload hx hb dX12_join_134 (lv_at hl 0 rfl) ?_
  refine lv_if_ge (tgt := 170) hx hb dX12_join_136 (by decide) (fun hc => ?_) (fun hc => ?_)
  · have hm := it_t hc hm
    exact wX12_join_J170 C hk28 _ _ _ _ _ _ _ _ _ _ hm _ _ _ (lv_sub hl [1, 2, 3, 4, 5, 0] rfl) hw
  · have hm := it_f hc hm
    refine lv_aload_n hx hb dX12_join_139 rfl (lv_at hl 1 rfl) ?_
    refine g_get C hw gM_3 dX12_join_140 ?_
    refine lv_sipush (v := 200) hx hb dX12_join_143 cs_200 ?_
    refine lv_icmp_lt (tgt := 158) hx hb dX12_join_146 (by decide) (fun hc => ?_) (fun hc => ?_)
    · have hm := it_t hc hm
      refine lv_aload_n hx hb dX12_join_158 rfl (lv_at hl 1 rfl) ?_
      refine lv_iload hx hb dX12_join_159 (lv_at hl 6 rfl) ?_
      refine lv_iload hx hb dX12_join_161 (lv_at hl 7 rfl) ?_
      refine lv_iload hx hb dX12_join_163 (lv_at hl 8 rfl) ?_
      obtain ⟨r165, iv165, ar165, hc165, hm⟩ := ob_some hm
      refine g_calli (As := [.int l8, .int l9, .int l10]) (rest := []) C hw (kX12_make hc165) mtX12_make lkX12_288 oM hl.1 rfl rfl (Nat.le_of_ble_eq_true rfl) ⟨Nat.le_of_ble_eq_true rfl, Nat.le_of_ble_eq_true rfl⟩ dX12_join_165 ⟨Nat.zero_le _, Nat.zero_le _⟩ (fun H locs hw => ?_)
      refine lv_istore (lv' := [(11, .int r165), (0, .ref o), (4, .int l4), (5, .int l5), (6, .int l6), (7, .int l7), (8, .int l8), (9, .int l9), (10, .int l10)]) hx hb dX12_join_168 hl (by decide) rfl (fun ls hl => ?_)
      exact wX12_join_J170 C hk28 _ _ _ _ _ _ _ _ _ _ hm _ _ _ (lv_sub hl [1, 2, 3, 4, 5, 0] rfl) hw
    · have hm := it_f hc hm
      refine lv_aload_n hx hb dX12_join_149 rfl (lv_at hl 1 rfl) ?_
      refine lv_iload hx hb dX12_join_150 (lv_at hl 2 rfl) ?_
      refine g_put C hw pM_3 dX12_join_152 (fun H locs hw => ?_)
      refine lv_bipush (v := (-3)) hx hb dX12_join_155 cb_m3 ?_
      cases hm
      exact g_iret C hw dX12_join_157
def mX12_join_L28 : Nat → Int32 → Int32 → mI → mA → Option (Int32 × mI × mA)
  | 0, _, _, _, _ => none
  | n + 1, l4, l5, iv, ar => if (iv 17) ≤ 0 then some (l5, iv, ar) else if ((va_up iv 17 ((iv 17) - 1)) 17) < 0 ∨ 4000 ≤ ((va_up iv 17 ((iv 17) - 1)) 17).toNatClampNeg then none else if ((va_up iv 17 ((iv 17) - 1)) 17) < 0 ∨ 4000 ≤ ((va_up iv 17 ((iv 17) - 1)) 17).toNatClampNeg then none else if ((va_up iv 17 ((iv 17) - 1)) 17) < 0 ∨ 4000 ≤ ((va_up iv 17 ((iv 17) - 1)) 17).toNatClampNeg then none else if ((va_up iv 17 ((iv 17) - 1)) 17) < 0 ∨ 4000 ≤ ((va_up iv 17 ((iv 17) - 1)) 17).toNatClampNeg then none else if ((va_up iv 17 ((iv 17) - 1)) 17) < 0 ∨ 4000 ≤ ((va_up iv 17 ((iv 17) - 1)) 17).toNatClampNeg then none else ob (mX12_simple (ar 12 ((va_up iv 17 ((iv 17) - 1)) 17).toNatClampNeg) (ar 13 ((va_up iv 17 ((iv 17) - 1)) 17).toNatClampNeg) (ar 14 ((va_up iv 17 ((iv 17) - 1)) 17).toNatClampNeg) (va_up iv 17 ((iv 17) - 1)) ar) (fun r107 iv107 ar107 => if 0 ≤ r107 then mX12_join_J132 (mX12_join_L28 n) l4 l5 (ar 15 ((va_up iv 17 ((iv 17) - 1)) 17).toNatClampNeg) (ar 16 ((va_up iv 17 ((iv 17) - 1)) 17).toNatClampNeg) (ar 12 ((va_up iv 17 ((iv 17) - 1)) 17).toNatClampNeg) (ar 13 ((va_up iv 17 ((iv 17) - 1)) 17).toNatClampNeg) (ar 14 ((va_up iv 17 ((iv 17) - 1)) 17).toNatClampNeg) r107 iv107 ar107 else ob (mX12_findMade (ar 12 ((va_up iv 17 ((iv 17) - 1)) 17).toNatClampNeg) (ar 13 ((va_up iv 17 ((iv 17) - 1)) 17).toNatClampNeg) (ar 14 ((va_up iv 17 ((iv 17) - 1)) 17).toNatClampNeg) iv107 ar107) (fun r124 iv124 ar124 => mX12_join_J132 (mX12_join_L28 n) l4 l5 (ar 15 ((va_up iv 17 ((iv 17) - 1)) 17).toNatClampNeg) (ar 16 ((va_up iv 17 ((iv 17) - 1)) 17).toNatClampNeg) (ar 12 ((va_up iv 17 ((iv 17) - 1)) 17).toNatClampNeg) (ar 13 ((va_up iv 17 ((iv 17) - 1)) 17).toNatClampNeg) (ar 14 ((va_up iv 17 ((iv 17) - 1)) 17).toNatClampNeg) r124 iv124 ar124))
set_option maxRecDepth 100000 in
set_option maxHeartbeats 4000000 in
theorem wX12_join_L28 (C : mCx p s m args meth c RX12 cX12_join 12 (some .int) D cI cJ A) (n : Nat) : ∀ (l4 : Int32) (l5 : Int32) (iv : mI) (ar : mA) (rz : Int32) (ivz : mI) (arz : mA), mX12_join_L28 n l4 l5 iv ar = some (rz, ivz, arz) → ∀ (H : Heap) (locs : List Loc) (ls : Array Slot), lv_has ls 12 [(0, .ref o), (4, .int l4), (5, .int l5)] → inW D A s (wM cI o ad iv ar) H locs → W p l e (rmO 2 58) s m args below meth c H locs 0 0 (MQ below (ctQ D cI cJ (wM cI o ad ivz arz) A rz) args s 0 0 A) (F0 m 28 ls []) := by
  induction n with
  | zero =>
    intro l4 l5 iv ar rz ivz arz hm H locs ls hl hw
    have hm : (none : Option (Int32 × mI × mA)) = some _ := hm
    cases hm
  | succ n ih =>
    intro l4 l5 iv ar rz ivz arz hm H locs ls hl hw
    have hx := C.1.1
    have hb := C.1.2.1
    unfold mX12_join_L28 at hm
    refine lv_aload_n hx hb dX12_join_28 rfl (lv_at hl 0 rfl) ?_
    refine g_get C hw gM_17 dX12_join_29 ?_
    refine lv_if_le (tgt := 200) hx hb dX12_join_32 (by decide) (fun hc => ?_) (fun hc => ?_)
    · have hm := it_t hc hm
      refine lv_iload hx hb dX12_join_200 (lv_at hl 2 rfl) ?_
      cases hm
      exact g_iret C hw dX12_join_202
    · have hm := it_f hc hm
      refine lv_aload_n hx hb dX12_join_35 rfl (lv_at hl 0 rfl) ?_
      refine lv_dup hx hb dX12_join_36 rfl ?_
      refine g_get C hw gM_17 dX12_join_37 ?_
      refine lv_iconst (v := 1) hx hb dX12_join_40 ci_1 ?_
      refine lv_isub hx hb dX12_join_41 ?_
      refine g_put C hw pM_17 dX12_join_42 (fun H locs hw => ?_)
      refine lv_aload_n hx hb dX12_join_45 rfl (lv_at hl 0 rfl) ?_
      refine g_get C hw gM_15 dX12_join_46 ?_
      refine lv_aload_n hx hb dX12_join_49 rfl (lv_at hl 0 rfl) ?_
      refine g_get C hw gM_17 dX12_join_50 ?_
      obtain ⟨hi, hm⟩ := it_a hm
      refine g_ald C hw aM_15 hi dX12_join_53 ?_
      refine lv_istore (lv' := [(6, .int (ar 15 ((va_up iv 17 ((iv 17) - 1)) 17).toNatClampNeg)), (0, .ref o), (4, .int l4), (5, .int l5)]) hx hb dX12_join_54 hl (by decide) rfl (fun ls hl => ?_)
      refine lv_aload_n hx hb dX12_join_56 rfl (lv_at hl 1 rfl) ?_
      refine g_get C hw gM_16 dX12_join_57 ?_
      refine lv_aload_n hx hb dX12_join_60 rfl (lv_at hl 1 rfl) ?_
      refine g_get C hw gM_17 dX12_join_61 ?_
      obtain ⟨hi, hm⟩ := it_a hm
      refine g_ald C hw aM_16 hi dX12_join_64 ?_
      refine lv_istore (lv' := [(7, .int (ar 16 ((va_up iv 17 ((iv 17) - 1)) 17).toNatClampNeg)), (6, .int (ar 15 ((va_up iv 17 ((iv 17) - 1)) 17).toNatClampNeg)), (0, .ref o), (4, .int l4), (5, .int l5)]) hx hb dX12_join_65 hl (by decide) rfl (fun ls hl => ?_)
      refine lv_aload_n hx hb dX12_join_67 rfl (lv_at hl 2 rfl) ?_
      refine g_get C hw gM_12 dX12_join_68 ?_
      refine lv_aload_n hx hb dX12_join_71 rfl (lv_at hl 2 rfl) ?_
      refine g_get C hw gM_17 dX12_join_72 ?_
      obtain ⟨hi, hm⟩ := it_a hm
      refine g_ald C hw aM_12 hi dX12_join_75 ?_
      refine lv_istore (lv' := [(8, .int (ar 12 ((va_up iv 17 ((iv 17) - 1)) 17).toNatClampNeg)), (7, .int (ar 16 ((va_up iv 17 ((iv 17) - 1)) 17).toNatClampNeg)), (6, .int (ar 15 ((va_up iv 17 ((iv 17) - 1)) 17).toNatClampNeg)), (0, .ref o), (4, .int l4), (5, .int l5)]) hx hb dX12_join_76 hl (by decide) rfl (fun ls hl => ?_)
      refine lv_aload_n hx hb dX12_join_78 rfl (lv_at hl 3 rfl) ?_
      refine g_get C hw gM_13 dX12_join_79 ?_
      refine lv_aload_n hx hb dX12_join_82 rfl (lv_at hl 3 rfl) ?_
      refine g_get C hw gM_17 dX12_join_83 ?_
      obtain ⟨hi, hm⟩ := it_a hm
      refine g_ald C hw aM_13 hi dX12_join_86 ?_
      refine lv_istore (lv' := [(9, .int (ar 13 ((va_up iv 17 ((iv 17) - 1)) 17).toNatClampNeg)), (8, .int (ar 12 ((va_up iv 17 ((iv 17) - 1)) 17).toNatClampNeg)), (7, .int (ar 16 ((va_up iv 17 ((iv 17) - 1)) 17).toNatClampNeg)), (6, .int (ar 15 ((va_up iv 17 ((iv 17) - 1)) 17).toNatClampNeg)), (0, .ref o), (4, .int l4), (5, .int l5)]) hx hb dX12_join_87 hl (by decide) rfl (fun ls hl => ?_)
      refine lv_aload_n hx hb dX12_join_89 rfl (lv_at hl 4 rfl) ?_
      refine g_get C hw gM_14 dX12_join_90 ?_
      refine lv_aload_n hx hb dX12_join_93 rfl (lv_at hl 4 rfl) ?_
      refine g_get C hw gM_17 dX12_join_94 ?_
      obtain ⟨hi, hm⟩ := it_a hm
      refine g_ald C hw aM_14 hi dX12_join_97 ?_
      refine lv_istore (lv' := [(10, .int (ar 14 ((va_up iv 17 ((iv 17) - 1)) 17).toNatClampNeg)), (9, .int (ar 13 ((va_up iv 17 ((iv 17) - 1)) 17).toNatClampNeg)), (8, .int (ar 12 ((va_up iv 17 ((iv 17) - 1)) 17).toNatClampNeg)), (7, .int (ar 16 ((va_up iv 17 ((iv 17) - 1)) 17).toNatClampNeg)), (6, .int (ar 15 ((va_up iv 17 ((iv 17) - 1)) 17).toNatClampNeg)), (0, .ref o), (4, .int l4), (5, .int l5)]) hx hb dX12_join_98 hl (by decide) rfl (fun ls hl => ?_)
      refine lv_aload_n hx hb dX12_join_100 rfl (lv_at hl 5 rfl) ?_
      refine lv_iload hx hb dX12_join_101 (lv_at hl 2 rfl) ?_
      refine lv_iload hx hb dX12_join_103 (lv_at hl 1 rfl) ?_
      refine lv_iload hx hb dX12_join_105 (lv_at hl 0 rfl) ?_
      obtain ⟨r107, iv107, ar107, hc107, hm⟩ := ob_some hm
      refine g_calli (As := [.int (ar 12 ((va_up iv 17 ((iv 17) - 1)) 17).toNatClampNeg), .int (ar 13 ((va_up iv 17 ((iv 17) - 1)) 17).toNatClampNeg), .int (ar 14 ((va_up iv 17 ((iv 17) - 1)) 17).toNatClampNeg)]) (rest := []) C hw (kX12_simple hc107) mtX12_simple lkX12_282 oM hl.1 rfl rfl (Nat.le_of_ble_eq_true rfl) ⟨Nat.le_of_ble_eq_true rfl, Nat.le_of_ble_eq_true rfl⟩ dX12_join_107 ⟨Nat.zero_le _, Nat.zero_le _⟩ (fun H locs hw => ?_)
      refine lv_istore (lv' := [(11, .int r107), (10, .int (ar 14 ((va_up iv 17 ((iv 17) - 1)) 17).toNatClampNeg)), (9, .int (ar 13 ((va_up iv 17 ((iv 17) - 1)) 17).toNatClampNeg)), (8, .int (ar 12 ((va_up iv 17 ((iv 17) - 1)) 17).toNatClampNeg)), (7, .int (ar 16 ((va_up iv 17 ((iv 17) - 1)) 17).toNatClampNeg)), (6, .int (ar 15 ((va_up iv 17 ((iv 17) - 1)) 17).toNatClampNeg)), (0, .ref o), (4, .int l4), (5, .int l5)]) hx hb dX12_join_110 hl (by decide) rfl (fun ls hl => ?_)
      refine lv_iload hx hb dX12_join_112 (lv_at hl 0 rfl) ?_
      refine lv_if_ge (tgt := 130) hx hb dX12_join_114 (by decide) (fun hc => ?_) (fun hc => ?_)
      · have hm := it_t hc hm
        refine lv_iload hx hb dX12_join_130 (lv_at hl 0 rfl) ?_
        exact wX12_join_J132 C ih _ _ _ _ _ _ _ _ _ _ _ _ _ hm _ _ _ (lv_sub hl [6, 7, 8, 5, 4, 3, 2, 1] rfl) hw
      · have hm := it_f hc hm
        refine lv_aload_n hx hb dX12_join_117 rfl (lv_at hl 6 rfl) ?_
        refine lv_iload hx hb dX12_join_118 (lv_at hl 3 rfl) ?_
        refine lv_iload hx hb dX12_join_120 (lv_at hl 2 rfl) ?_
        refine lv_iload hx hb dX12_join_122 (lv_at hl 1 rfl) ?_
        obtain ⟨r124, iv124, ar124, hc124, hm⟩ := ob_some hm
        refine g_calli (As := [.int (ar 12 ((va_up iv 17 ((iv 17) - 1)) 17).toNatClampNeg), .int (ar 13 ((va_up iv 17 ((iv 17) - 1)) 17).toNatClampNeg), .int (ar 14 ((va_up iv 17 ((iv 17) - 1)) 17).toNatClampNeg)]) (rest := []) C hw (kX12_findMade hc124) mtX12_findMade lkX12_285 oM hl.1 rfl rfl (Nat.le_of_ble_eq_true rfl) ⟨Nat.le_of_ble_eq_true rfl, Nat.le_of_ble_eq_true rfl⟩ dX12_join_124 ⟨Nat.zero_le _, Nat.zero_le _⟩ (fun H locs hw => ?_)
        refine lv_goto (tgt := 132) hx hb dX12_join_127 (by decide) ?_
        exact wX12_join_J132 C ih _ _ _ _ _ _ _ _ _ _ _ _ _ hm _ _ _ (lv_sub hl [6, 7, 8, 5, 4, 3, 2, 1] rfl) hw
def mX12_join (a1 : Int32) (a2 : Int32) (a3 : Int32) (iv : mI) (ar : mA) : Option (Int32 × mI × mA) := ob (mX12_ask a1 a2 a3 (-1) 0 (va_up (va_up iv 22 0) 17 0) ar) (fun r22 iv22 ar22 => mX12_join_L28 bigF (iv 3) (-1) iv22 ar22)
set_option maxRecDepth 100000 in
set_option maxHeartbeats 4000000 in
theorem kX12_join {a1 a2 a3 : Int32} {iv ivz : mI} {ar arz : mA} {rz : Int32} (hm : mX12_join a1 a2 a3 iv ar = some (rz, ivz, arz)) : Ct l D cI cJ yX12_join cX12_join 12 (some .int) 2 58 [.ref o, .int a1, .int a2, .int a3] (wM cI o ad iv ar) (wM cI o ad ivz arz) rz := by
  intro sz
  refine ct_of (by decide) (Nat.le_of_ble_eq_true rfl) ?_
  intro p e s m args below meth c C hw ls hl
  have hl : lv_has ls 12 [(0, .ref o), (1, .int a1), (2, .int a2), (3, .int a3)] := hl
  have hx := C.1.1
  have hb := C.1.2.1
  unfold mX12_join at hm
  refine lv_aload_n hx hb dX12_join_0 rfl (lv_at hl 0 rfl) ?_
  refine g_get C hw gM_3 dX12_join_1 ?_
  refine lv_istore (lv' := [(4, .int (iv 3)), (0, .ref o), (1, .int a1), (2, .int a2), (3, .int a3)]) hx hb dX12_join_4 hl (by decide) rfl (fun ls hl => ?_)
  refine lv_aload_n hx hb dX12_join_6 rfl (lv_at hl 1 rfl) ?_
  refine lv_iconst (v := 0) hx hb dX12_join_7 ci_0 ?_
  refine g_put C hw pM_22 dX12_join_8 (fun H locs hw => ?_)
  refine lv_aload_n hx hb dX12_join_11 rfl (lv_at hl 1 rfl) ?_
  refine lv_iconst (v := 0) hx hb dX12_join_12 ci_0 ?_
  refine g_put C hw pM_17 dX12_join_13 (fun H locs hw => ?_)
  refine lv_aload_n hx hb dX12_join_16 rfl (lv_at hl 1 rfl) ?_
  refine lv_iload_n hx hb dX12_join_17 rfl (lv_at hl 2 rfl) ?_
  refine lv_iload_n hx hb dX12_join_18 rfl (lv_at hl 3 rfl) ?_
  refine lv_iload_n hx hb dX12_join_19 rfl (lv_at hl 4 rfl) ?_
  refine lv_iconst (v := (-1)) hx hb dX12_join_20 ci_m1 ?_
  refine lv_iconst (v := 0) hx hb dX12_join_21 ci_0 ?_
  obtain ⟨r22, iv22, ar22, hc22, hm⟩ := ob_some hm
  refine g_callv (As := [.int a1, .int a2, .int a3, .int (-1), .int 0]) (rest := []) C hw (kX12_ask hc22) mtX12_ask lkX12_278 oM hl.1 rfl rfl (Nat.le_of_ble_eq_true rfl) ⟨Nat.le_of_ble_eq_true rfl, Nat.le_of_ble_eq_true rfl⟩ dX12_join_22 ⟨Nat.zero_le _, Nat.zero_le _⟩ (fun H locs hw => ?_)
  refine lv_iconst (v := (-1)) hx hb dX12_join_25 ci_m1 ?_
  refine lv_istore (lv' := [(5, .int (-1)), (4, .int (iv 3)), (0, .ref o), (1, .int a1), (2, .int a2), (3, .int a3)]) hx hb dX12_join_26 hl (by decide) rfl (fun ls hl => ?_)
  exact wX12_join_L28 C bigF _ _ _ _ _ _ _ hm _ _ _ (lv_sub hl [2, 1, 0] rfl) hw
def mX12_unite (a1 : Int32) (a2 : Int32) (iv : mI) (ar : mA) : Option (Int32 × mI × mA) := ob (mX12_isNode a1 iv ar) (fun r2 iv2 ar2 => if r2 = 0 then some ((-2), iv2, ar2) else ob (mX12_isNode a2 iv2 ar2) (fun r10 iv10 ar10 => if r10 = 0 then some ((-2), iv10, ar10) else ob (mX12_join 0 a1 a2 iv10 ar10) (fun r25 iv25 ar25 => some (r25, iv25, ar25))))
set_option maxRecDepth 100000 in
set_option maxHeartbeats 4000000 in
theorem kX12_unite {a1 a2 : Int32} {iv ivz : mI} {ar arz : mA} {rz : Int32} (hm : mX12_unite a1 a2 iv ar = some (rz, ivz, arz)) : Ct l D cI cJ yX12_unite cX12_unite 3 (some .int) 3 89 [.ref o, .int a1, .int a2] (wM cI o ad iv ar) (wM cI o ad ivz arz) rz := by
  intro sz
  refine ct_of (by decide) (Nat.le_of_ble_eq_true rfl) ?_
  intro p e s m args below meth c C hw ls hl
  have hl : lv_has ls 3 [(0, .ref o), (1, .int a1), (2, .int a2)] := hl
  have hx := C.1.1
  have hb := C.1.2.1
  unfold mX12_unite at hm
  refine lv_aload_n hx hb dX12_unite_0 rfl (lv_at hl 0 rfl) ?_
  refine lv_iload_n hx hb dX12_unite_1 rfl (lv_at hl 1 rfl) ?_
  obtain ⟨r2, iv2, ar2, hc2, hm⟩ := ob_some hm
  refine g_calli (As := [.int a1]) (rest := []) C hw (kX12_isNode hc2) mtX12_isNode lkX12_265 oM hl.1 rfl rfl (Nat.le_of_ble_eq_true rfl) ⟨Nat.le_of_ble_eq_true rfl, Nat.le_of_ble_eq_true rfl⟩ dX12_unite_2 ⟨Nat.zero_le _, Nat.zero_le _⟩ (fun H locs hw => ?_)
  refine lv_if_eq (tgt := 16) hx hb dX12_unite_5 (by decide) (fun hc => ?_) (fun hc => ?_)
  · have hm := it_t hc hm
    refine lv_bipush (v := (-2)) hx hb dX12_unite_16 cb_m2 ?_
    refine lv_goto (tgt := 28) hx hb dX12_unite_18 (by decide) ?_
    cases hm
    exact g_iret C hw dX12_unite_28
  · have hm := it_f hc hm
    refine lv_aload_n hx hb dX12_unite_8 rfl (lv_at hl 0 rfl) ?_
    refine lv_iload_n hx hb dX12_unite_9 rfl (lv_at hl 2 rfl) ?_
    obtain ⟨r10, iv10, ar10, hc10, hm⟩ := ob_some hm
    refine g_calli (As := [.int a2]) (rest := []) C hw (kX12_isNode hc10) mtX12_isNode lkX12_265 oM hl.1 rfl rfl (Nat.le_of_ble_eq_true rfl) ⟨Nat.le_of_ble_eq_true rfl, Nat.le_of_ble_eq_true rfl⟩ dX12_unite_10 ⟨Nat.zero_le _, Nat.zero_le _⟩ (fun H locs hw => ?_)
    refine lv_if_ne (tgt := 21) hx hb dX12_unite_13 (by decide) (fun hc => ?_) (fun hc => ?_)
    · have hm := it_f hc hm
      refine lv_aload_n hx hb dX12_unite_21 rfl (lv_at hl 0 rfl) ?_
      refine lv_iconst (v := 0) hx hb dX12_unite_22 ci_0 ?_
      refine lv_iload_n hx hb dX12_unite_23 rfl (lv_at hl 1 rfl) ?_
      refine lv_iload_n hx hb dX12_unite_24 rfl (lv_at hl 2 rfl) ?_
      obtain ⟨r25, iv25, ar25, hc25, hm⟩ := ob_some hm
      refine g_calli (As := [.int 0, .int a1, .int a2]) (rest := []) C hw (kX12_join hc25) mtX12_join lkX12_291 oM hl.1 rfl rfl (Nat.le_of_ble_eq_true rfl) ⟨Nat.le_of_ble_eq_true rfl, Nat.le_of_ble_eq_true rfl⟩ dX12_unite_25 ⟨Nat.zero_le _, Nat.zero_le _⟩ (fun H locs hw => ?_)
      cases hm
      exact g_iret C hw dX12_unite_28
    · have hm := it_t hc hm
      refine lv_bipush (v := (-2)) hx hb dX12_unite_16 cb_m2 ?_
      refine lv_goto (tgt := 28) hx hb dX12_unite_18 (by decide) ?_
      cases hm
      exact g_iret C hw dX12_unite_28
def mX12_meet (a1 : Int32) (a2 : Int32) (iv : mI) (ar : mA) : Option (Int32 × mI × mA) := ob (mX12_isNode a1 iv ar) (fun r2 iv2 ar2 => if r2 = 0 then some ((-2), iv2, ar2) else ob (mX12_isNode a2 iv2 ar2) (fun r10 iv10 ar10 => if r10 = 0 then some ((-2), iv10, ar10) else ob (mX12_join 1 a1 a2 iv10 ar10) (fun r25 iv25 ar25 => some (r25, iv25, ar25))))
set_option maxRecDepth 100000 in
set_option maxHeartbeats 4000000 in
theorem kX12_meet {a1 a2 : Int32} {iv ivz : mI} {ar arz : mA} {rz : Int32} (hm : mX12_meet a1 a2 iv ar = some (rz, ivz, arz)) : Ct l D cI cJ yX12_meet cX12_meet 3 (some .int) 3 89 [.ref o, .int a1, .int a2] (wM cI o ad iv ar) (wM cI o ad ivz arz) rz := by
  intro sz
  refine ct_of (by decide) (Nat.le_of_ble_eq_true rfl) ?_
  intro p e s m args below meth c C hw ls hl
  have hl : lv_has ls 3 [(0, .ref o), (1, .int a1), (2, .int a2)] := hl
  have hx := C.1.1
  have hb := C.1.2.1
  unfold mX12_meet at hm
  refine lv_aload_n hx hb dX12_meet_0 rfl (lv_at hl 0 rfl) ?_
  refine lv_iload_n hx hb dX12_meet_1 rfl (lv_at hl 1 rfl) ?_
  obtain ⟨r2, iv2, ar2, hc2, hm⟩ := ob_some hm
  refine g_calli (As := [.int a1]) (rest := []) C hw (kX12_isNode hc2) mtX12_isNode lkX12_265 oM hl.1 rfl rfl (Nat.le_of_ble_eq_true rfl) ⟨Nat.le_of_ble_eq_true rfl, Nat.le_of_ble_eq_true rfl⟩ dX12_meet_2 ⟨Nat.zero_le _, Nat.zero_le _⟩ (fun H locs hw => ?_)
  refine lv_if_eq (tgt := 16) hx hb dX12_meet_5 (by decide) (fun hc => ?_) (fun hc => ?_)
  · have hm := it_t hc hm
    refine lv_bipush (v := (-2)) hx hb dX12_meet_16 cb_m2 ?_
    refine lv_goto (tgt := 28) hx hb dX12_meet_18 (by decide) ?_
    cases hm
    exact g_iret C hw dX12_meet_28
  · have hm := it_f hc hm
    refine lv_aload_n hx hb dX12_meet_8 rfl (lv_at hl 0 rfl) ?_
    refine lv_iload_n hx hb dX12_meet_9 rfl (lv_at hl 2 rfl) ?_
    obtain ⟨r10, iv10, ar10, hc10, hm⟩ := ob_some hm
    refine g_calli (As := [.int a2]) (rest := []) C hw (kX12_isNode hc10) mtX12_isNode lkX12_265 oM hl.1 rfl rfl (Nat.le_of_ble_eq_true rfl) ⟨Nat.le_of_ble_eq_true rfl, Nat.le_of_ble_eq_true rfl⟩ dX12_meet_10 ⟨Nat.zero_le _, Nat.zero_le _⟩ (fun H locs hw => ?_)
    refine lv_if_ne (tgt := 21) hx hb dX12_meet_13 (by decide) (fun hc => ?_) (fun hc => ?_)
    · have hm := it_f hc hm
      refine lv_aload_n hx hb dX12_meet_21 rfl (lv_at hl 0 rfl) ?_
      refine lv_iconst (v := 1) hx hb dX12_meet_22 ci_1 ?_
      refine lv_iload_n hx hb dX12_meet_23 rfl (lv_at hl 1 rfl) ?_
      refine lv_iload_n hx hb dX12_meet_24 rfl (lv_at hl 2 rfl) ?_
      obtain ⟨r25, iv25, ar25, hc25, hm⟩ := ob_some hm
      refine g_calli (As := [.int 1, .int a1, .int a2]) (rest := []) C hw (kX12_join hc25) mtX12_join lkX12_291 oM hl.1 rfl rfl (Nat.le_of_ble_eq_true rfl) ⟨Nat.le_of_ble_eq_true rfl, Nat.le_of_ble_eq_true rfl⟩ dX12_meet_25 ⟨Nat.zero_le _, Nat.zero_le _⟩ (fun H locs hw => ?_)
      cases hm
      exact g_iret C hw dX12_meet_28
    · have hm := it_t hc hm
      refine lv_bipush (v := (-2)) hx hb dX12_meet_16 cb_m2 ?_
      refine lv_goto (tgt := 28) hx hb dX12_meet_18 (by decide) ?_
      cases hm
      exact g_iret C hw dX12_meet_28
def mX12_place  (iv : mI) (ar : mA) : Option (Int32 × mI × mA) := some ((iv 2), iv, ar)
set_option maxRecDepth 100000 in
set_option maxHeartbeats 4000000 in
theorem kX12_place {iv ivz : mI} {ar arz : mA} {rz : Int32} (hm : mX12_place iv ar = some (rz, ivz, arz)) : Ct l D cI cJ yX12_place cX12_place 1 (some .int) 0 0 [.ref o] (wM cI o ad iv ar) (wM cI o ad ivz arz) rz := by
  intro sz
  refine ct_of (by decide) (Nat.le_of_ble_eq_true rfl) ?_
  intro p e s m args below meth c C hw ls hl
  have hl : lv_has ls 1 [(0, .ref o)] := hl
  have hx := C.1.1
  have hb := C.1.2.1
  unfold mX12_place at hm
  refine lv_aload_n hx hb dX12_place_0 rfl (lv_at hl 0 rfl) ?_
  refine g_get C hw gM_2 dX12_place_1 ?_
  cases hm
  exact g_iret C hw dX12_place_4
def mX12_node (a1 : Int32) (a2 : Int32) (iv : mI) (ar : mA) : Option (Int32 × mI × mA) := if 0 ≤ a2 then ob (mX12_isNode a1 iv ar) (fun r9 iv9 ar9 => if r9 = 0 then some ((-1), iv9, ar9) else if a2 = 0 then if a1 < 0 ∨ 400 ≤ a1.toNatClampNeg then none else some ((ar9 4 a1.toNatClampNeg), iv9, ar9) else if a2 = 1 then if a1 < 0 ∨ 400 ≤ a1.toNatClampNeg then none else some ((ar9 5 a1.toNatClampNeg), iv9, ar9) else if 8 ≤ (a2 - 2) then some ((-1), iv9, ar9) else if a1 < 0 ∨ 400 ≤ a1.toNatClampNeg then none else if (((ar9 5 a1.toNatClampNeg) >>> ((a2 - 2) &&& 31)) &&& 1) = 1 then ob (mX12_part a1 (a2 - 2) iv9 ar9) (fun r73 iv73 ar73 => some (r73, iv73, ar73)) else some ((-1), iv9, ar9)) else some ((-2), iv, ar)
set_option maxRecDepth 100000 in
set_option maxHeartbeats 4000000 in
theorem kX12_node {a1 a2 : Int32} {iv ivz : mI} {ar arz : mA} {rz : Int32} (hm : mX12_node a1 a2 iv ar = some (rz, ivz, arz)) : Ct l D cI cJ yX12_node cX12_node 3 (some .int) 2 43 [.ref o, .int a1, .int a2] (wM cI o ad iv ar) (wM cI o ad ivz arz) rz := by
  intro sz
  refine ct_of (by decide) (Nat.le_of_ble_eq_true rfl) ?_
  intro p e s m args below meth c C hw ls hl
  have hl : lv_has ls 3 [(0, .ref o), (1, .int a1), (2, .int a2)] := hl
  have hx := C.1.1
  have hb := C.1.2.1
  unfold mX12_node at hm
  refine lv_iload_n hx hb dX12_node_0 rfl (lv_at hl 2 rfl) ?_
  refine lv_if_ge (tgt := 7) hx hb dX12_node_1 (by decide) (fun hc => ?_) (fun hc => ?_)
  · have hm := it_t hc hm
    refine lv_aload_n hx hb dX12_node_7 rfl (lv_at hl 0 rfl) ?_
    refine lv_iload_n hx hb dX12_node_8 rfl (lv_at hl 1 rfl) ?_
    obtain ⟨r9, iv9, ar9, hc9, hm⟩ := ob_some hm
    refine g_calli (As := [.int a1]) (rest := []) C hw (kX12_isNode hc9) mtX12_isNode lkX12_265 oM hl.1 rfl rfl (Nat.le_of_ble_eq_true rfl) ⟨Nat.le_of_ble_eq_true rfl, Nat.le_of_ble_eq_true rfl⟩ dX12_node_9 ⟨Nat.zero_le _, Nat.zero_le _⟩ (fun H locs hw => ?_)
    refine lv_if_ne (tgt := 17) hx hb dX12_node_12 (by decide) (fun hc => ?_) (fun hc => ?_)
    · have hm := it_f hc hm
      refine lv_iload_n hx hb dX12_node_17 rfl (lv_at hl 2 rfl) ?_
      refine lv_if_ne (tgt := 30) hx hb dX12_node_18 (by decide) (fun hc => ?_) (fun hc => ?_)
      · have hm := it_f hc hm
        refine lv_iload_n hx hb dX12_node_30 rfl (lv_at hl 2 rfl) ?_
        refine lv_iconst (v := 1) hx hb dX12_node_31 ci_1 ?_
        refine lv_icmp_ne (tgt := 44) hx hb dX12_node_32 (by decide) (fun hc => ?_) (fun hc => ?_)
        · have hm := it_f hc hm
          refine lv_iload_n hx hb dX12_node_44 rfl (lv_at hl 2 rfl) ?_
          refine lv_iconst (v := 2) hx hb dX12_node_45 ci_2 ?_
          refine lv_isub hx hb dX12_node_46 ?_
          refine lv_bipush (v := 8) hx hb dX12_node_47 cb_8 ?_
          refine lv_icmp_ge (tgt := 79) hx hb dX12_node_49 (by decide) (fun hc => ?_) (fun hc => ?_)
          · have hm := it_t hc hm
            refine lv_iconst (v := (-1)) hx hb dX12_node_79 ci_m1 ?_
            cases hm
            exact g_iret C hw dX12_node_80
          · have hm := it_f hc hm
            refine lv_aload_n hx hb dX12_node_52 rfl (lv_at hl 0 rfl) ?_
            refine g_get C hw gM_5 dX12_node_53 ?_
            refine lv_iload_n hx hb dX12_node_56 rfl (lv_at hl 1 rfl) ?_
            obtain ⟨hi, hm⟩ := it_a hm
            refine g_ald C hw aM_5 hi dX12_node_57 ?_
            refine lv_iload_n hx hb dX12_node_58 rfl (lv_at hl 2 rfl) ?_
            refine lv_iconst (v := 2) hx hb dX12_node_59 ci_2 ?_
            refine lv_isub hx hb dX12_node_60 ?_
            refine lv_ishr hx hb dX12_node_61 ?_
            refine lv_iconst (v := 1) hx hb dX12_node_62 ci_1 ?_
            refine lv_iand hx hb dX12_node_63 ?_
            refine lv_iconst (v := 1) hx hb dX12_node_64 ci_1 ?_
            refine lv_icmp_ne (tgt := 79) hx hb dX12_node_65 (by decide) (fun hc => ?_) (fun hc => ?_)
            · have hm := it_f hc hm
              refine lv_iconst (v := (-1)) hx hb dX12_node_79 ci_m1 ?_
              cases hm
              exact g_iret C hw dX12_node_80
            · have hm := it_t hc hm
              refine lv_aload_n hx hb dX12_node_68 rfl (lv_at hl 0 rfl) ?_
              refine lv_iload_n hx hb dX12_node_69 rfl (lv_at hl 1 rfl) ?_
              refine lv_iload_n hx hb dX12_node_70 rfl (lv_at hl 2 rfl) ?_
              refine lv_iconst (v := 2) hx hb dX12_node_71 ci_2 ?_
              refine lv_isub hx hb dX12_node_72 ?_
              obtain ⟨r73, iv73, ar73, hc73, hm⟩ := ob_some hm
              refine g_calli (As := [.int a1, .int (a2 - 2)]) (rest := []) C hw (kX12_part hc73) mtX12_part lkX12_242 oM hl.1 rfl rfl (Nat.le_of_ble_eq_true rfl) ⟨Nat.le_of_ble_eq_true rfl, Nat.le_of_ble_eq_true rfl⟩ dX12_node_73 ⟨Nat.zero_le _, Nat.zero_le _⟩ (fun H locs hw => ?_)
              refine lv_goto (tgt := 80) hx hb dX12_node_76 (by decide) ?_
              cases hm
              exact g_iret C hw dX12_node_80
        · have hm := it_t hc hm
          refine lv_aload_n hx hb dX12_node_35 rfl (lv_at hl 0 rfl) ?_
          refine g_get C hw gM_5 dX12_node_36 ?_
          refine lv_iload_n hx hb dX12_node_39 rfl (lv_at hl 1 rfl) ?_
          obtain ⟨hi, hm⟩ := it_a hm
          refine g_ald C hw aM_5 hi dX12_node_40 ?_
          refine lv_goto (tgt := 80) hx hb dX12_node_41 (by decide) ?_
          cases hm
          exact g_iret C hw dX12_node_80
      · have hm := it_t hc hm
        refine lv_aload_n hx hb dX12_node_21 rfl (lv_at hl 0 rfl) ?_
        refine g_get C hw gM_4 dX12_node_22 ?_
        refine lv_iload_n hx hb dX12_node_25 rfl (lv_at hl 1 rfl) ?_
        obtain ⟨hi, hm⟩ := it_a hm
        refine g_ald C hw aM_4 hi dX12_node_26 ?_
        refine lv_goto (tgt := 80) hx hb dX12_node_27 (by decide) ?_
        cases hm
        exact g_iret C hw dX12_node_80
    · have hm := it_t hc hm
      refine lv_iconst (v := (-1)) hx hb dX12_node_15 ci_m1 ?_
      cases hm
      exact g_iret C hw dX12_node_16
  · have hm := it_f hc hm
    refine lv_bipush (v := (-2)) hx hb dX12_node_4 cb_m2 ?_
    cases hm
    exact g_iret C hw dX12_node_6
def mX12_wants (a0 : Int32) (iv : mI) (ar : mA) : Option (Int32 × mI × mA) := if a0 = 21 then some (1, iv, ar) else if a0 = 22 then some (2, iv, ar) else if a0 = 23 then some (0, iv, ar) else if a0 = 24 then some (2, iv, ar) else if a0 = 25 then some (2, iv, ar) else if a0 = 26 then some (0, iv, ar) else if a0 = 27 then some (0, iv, ar) else if a0 = 28 then some (3, iv, ar) else if a0 = 29 then some (0, iv, ar) else if a0 = 30 then some (1, iv, ar) else if a0 = 31 then some (1, iv, ar) else if a0 = 32 then some (0, iv, ar) else if a0 = 33 then some (1, iv, ar) else some (0, iv, ar)
set_option maxRecDepth 100000 in
set_option maxHeartbeats 4000000 in
theorem kX12_wants {a0 : Int32} {iv ivz : mI} {ar arz : mA} {rz : Int32} (hm : mX12_wants a0 iv ar = some (rz, ivz, arz)) : Ct l D cI cJ yX12_wants cX12_wants 1 (some .int) 0 0 [.int a0] (wM cI o ad iv ar) (wM cI o ad ivz arz) rz := by
  intro sz
  refine ct_of (by decide) (Nat.le_of_ble_eq_true rfl) ?_
  intro p e s m args below meth c C hw ls hl
  have hl : lv_has ls 1 [(0, .int a0)] := hl
  have hx := C.1.1
  have hb := C.1.2.1
  unfold mX12_wants at hm
  refine lv_iload_n hx hb dX12_wants_0 rfl (lv_at hl 0 rfl) ?_
  refine br_by (c := a0 = 21) (fun hc => ?_) (fun hc21 => ?_)
  · have hm := it_t hc hm
    refine lv_tableIn (off := 71) (tgt := 72) hx hb dX12_wants_1 (by rw [hc]; decide) (by rw [hc]; decide) (by rw [hc]; rfl) (by decide) ?_
    refine lv_iconst (v := 1) hx hb dX12_wants_72 ci_1 ?_
    cases hm
    exact g_iret C hw dX12_wants_73
  · have hm := it_f hc21 hm
    refine br_by (c := a0 = 22) (fun hc => ?_) (fun hc22 => ?_)
    · have hm := it_t hc hm
      refine lv_tableIn (off := 67) (tgt := 68) hx hb dX12_wants_1 (by rw [hc]; decide) (by rw [hc]; decide) (by rw [hc]; rfl) (by decide) ?_
      refine lv_iconst (v := 2) hx hb dX12_wants_68 ci_2 ?_
      cases hm
      exact g_iret C hw dX12_wants_69
    · have hm := it_f hc22 hm
      refine br_by (c := a0 = 23) (fun hc => ?_) (fun hc23 => ?_)
      · have hm := it_t hc hm
        refine lv_tableIn (off := 73) (tgt := 74) hx hb dX12_wants_1 (by rw [hc]; decide) (by rw [hc]; decide) (by rw [hc]; rfl) (by decide) ?_
        refine lv_iconst (v := 0) hx hb dX12_wants_74 ci_0 ?_
        cases hm
        exact g_iret C hw dX12_wants_75
      · have hm := it_f hc23 hm
        refine br_by (c := a0 = 24) (fun hc => ?_) (fun hc24 => ?_)
        · have hm := it_t hc hm
          refine lv_tableIn (off := 67) (tgt := 68) hx hb dX12_wants_1 (by rw [hc]; decide) (by rw [hc]; decide) (by rw [hc]; rfl) (by decide) ?_
          refine lv_iconst (v := 2) hx hb dX12_wants_68 ci_2 ?_
          cases hm
          exact g_iret C hw dX12_wants_69
        · have hm := it_f hc24 hm
          refine br_by (c := a0 = 25) (fun hc => ?_) (fun hc25 => ?_)
          · have hm := it_t hc hm
            refine lv_tableIn (off := 67) (tgt := 68) hx hb dX12_wants_1 (by rw [hc]; decide) (by rw [hc]; decide) (by rw [hc]; rfl) (by decide) ?_
            refine lv_iconst (v := 2) hx hb dX12_wants_68 ci_2 ?_
            cases hm
            exact g_iret C hw dX12_wants_69
          · have hm := it_f hc25 hm
            refine br_by (c := a0 = 26) (fun hc => ?_) (fun hc26 => ?_)
            · have hm := it_t hc hm
              refine lv_tableIn (off := 73) (tgt := 74) hx hb dX12_wants_1 (by rw [hc]; decide) (by rw [hc]; decide) (by rw [hc]; rfl) (by decide) ?_
              refine lv_iconst (v := 0) hx hb dX12_wants_74 ci_0 ?_
              cases hm
              exact g_iret C hw dX12_wants_75
            · have hm := it_f hc26 hm
              refine br_by (c := a0 = 27) (fun hc => ?_) (fun hc27 => ?_)
              · have hm := it_t hc hm
                refine lv_tableIn (off := 73) (tgt := 74) hx hb dX12_wants_1 (by rw [hc]; decide) (by rw [hc]; decide) (by rw [hc]; rfl) (by decide) ?_
                refine lv_iconst (v := 0) hx hb dX12_wants_74 ci_0 ?_
                cases hm
                exact g_iret C hw dX12_wants_75
              · have hm := it_f hc27 hm
                refine br_by (c := a0 = 28) (fun hc => ?_) (fun hc28 => ?_)
                · have hm := it_t hc hm
                  refine lv_tableIn (off := 69) (tgt := 70) hx hb dX12_wants_1 (by rw [hc]; decide) (by rw [hc]; decide) (by rw [hc]; rfl) (by decide) ?_
                  refine lv_iconst (v := 3) hx hb dX12_wants_70 ci_3 ?_
                  cases hm
                  exact g_iret C hw dX12_wants_71
                · have hm := it_f hc28 hm
                  refine br_by (c := a0 = 29) (fun hc => ?_) (fun hc29 => ?_)
                  · have hm := it_t hc hm
                    refine lv_tableIn (off := 73) (tgt := 74) hx hb dX12_wants_1 (by rw [hc]; decide) (by rw [hc]; decide) (by rw [hc]; rfl) (by decide) ?_
                    refine lv_iconst (v := 0) hx hb dX12_wants_74 ci_0 ?_
                    cases hm
                    exact g_iret C hw dX12_wants_75
                  · have hm := it_f hc29 hm
                    refine br_by (c := a0 = 30) (fun hc => ?_) (fun hc30 => ?_)
                    · have hm := it_t hc hm
                      refine lv_tableIn (off := 71) (tgt := 72) hx hb dX12_wants_1 (by rw [hc]; decide) (by rw [hc]; decide) (by rw [hc]; rfl) (by decide) ?_
                      refine lv_iconst (v := 1) hx hb dX12_wants_72 ci_1 ?_
                      cases hm
                      exact g_iret C hw dX12_wants_73
                    · have hm := it_f hc30 hm
                      refine br_by (c := a0 = 31) (fun hc => ?_) (fun hc31 => ?_)
                      · have hm := it_t hc hm
                        refine lv_tableIn (off := 71) (tgt := 72) hx hb dX12_wants_1 (by rw [hc]; decide) (by rw [hc]; decide) (by rw [hc]; rfl) (by decide) ?_
                        refine lv_iconst (v := 1) hx hb dX12_wants_72 ci_1 ?_
                        cases hm
                        exact g_iret C hw dX12_wants_73
                      · have hm := it_f hc31 hm
                        refine br_by (c := a0 = 32) (fun hc => ?_) (fun hc32 => ?_)
                        · have hm := it_t hc hm
                          refine lv_tableIn (off := 73) (tgt := 74) hx hb dX12_wants_1 (by rw [hc]; decide) (by rw [hc]; decide) (by rw [hc]; rfl) (by decide) ?_
                          refine lv_iconst (v := 0) hx hb dX12_wants_74 ci_0 ?_
                          cases hm
                          exact g_iret C hw dX12_wants_75
                        · have hm := it_f hc32 hm
                          refine br_by (c := a0 = 33) (fun hc => ?_) (fun hc33 => ?_)
                          · have hm := it_t hc hm
                            refine lv_tableIn (off := 71) (tgt := 72) hx hb dX12_wants_1 (by rw [hc]; decide) (by rw [hc]; decide) (by rw [hc]; rfl) (by decide) ?_
                            refine lv_iconst (v := 1) hx hb dX12_wants_72 ci_1 ?_
                            cases hm
                            exact g_iret C hw dX12_wants_73
                          · have hm := it_f hc33 hm
                            have ho : (a0).toInt < 21 ∨ 33 < (a0).toInt := by
                              have ehc21 := sw_ne (n := 21) hc21 (by decide)
                              have ehc22 := sw_ne (n := 22) hc22 (by decide)
                              have ehc23 := sw_ne (n := 23) hc23 (by decide)
                              have ehc24 := sw_ne (n := 24) hc24 (by decide)
                              have ehc25 := sw_ne (n := 25) hc25 (by decide)
                              have ehc26 := sw_ne (n := 26) hc26 (by decide)
                              have ehc27 := sw_ne (n := 27) hc27 (by decide)
                              have ehc28 := sw_ne (n := 28) hc28 (by decide)
                              have ehc29 := sw_ne (n := 29) hc29 (by decide)
                              have ehc30 := sw_ne (n := 30) hc30 (by decide)
                              have ehc31 := sw_ne (n := 31) hc31 (by decide)
                              have ehc32 := sw_ne (n := 32) hc32 (by decide)
                              have ehc33 := sw_ne (n := 33) hc33 (by decide)
                              omega
                            refine lv_tableOut (tgt := 74) hx hb dX12_wants_1 ho (by decide) ?_
                            refine lv_iconst (v := 0) hx hb dX12_wants_74 ci_0 ?_
                            cases hm
                            exact g_iret C hw dX12_wants_75
def mX12_takeNode  (iv : mI) (ar : mA) : Option (Int32 × mI × mA) := ob (mX12_take 0 ((iv 3) - 1) iv ar) (fun r18 iv18 ar18 => if ((iv 31) - 1) < 0 ∨ 200 ≤ ((iv 31) - 1).toNatClampNeg then none else some (0, iv18, au ar18 34 ((iv 31) - 1).toNatClampNeg r18))
set_option maxRecDepth 100000 in
set_option maxHeartbeats 4000000 in
theorem kX12_takeNode {iv ivz : mI} {ar arz : mA} {rz : Int32} (hm : mX12_takeNode iv ar = some (rz, ivz, arz)) : CtV l D cI cJ yX12_takeNode cX12_takeNode 1 2 44 [.ref o] (wM cI o ad iv ar) (wM cI o ad ivz arz) := by
  intro sz
  refine ct_of (by decide) (Nat.le_of_ble_eq_true rfl) ?_
  intro p e s m args below meth c C hw ls hl
  have hl : lv_has ls 1 [(0, .ref o)] := hl
  have hx := C.1.1
  have hb := C.1.2.1
  unfold mX12_takeNode at hm
  refine lv_aload_n hx hb dX12_takeNode_0 rfl (lv_at hl 0 rfl) ?_
  refine g_get C hw gM_34 dX12_takeNode_1 ?_
  refine lv_aload_n hx hb dX12_takeNode_4 rfl (lv_at hl 0 rfl) ?_
  refine g_get C hw gM_31 dX12_takeNode_5 ?_
  refine lv_iconst (v := 1) hx hb dX12_takeNode_8 ci_1 ?_
  refine lv_isub hx hb dX12_takeNode_9 ?_
  refine lv_aload_n hx hb dX12_takeNode_10 rfl (lv_at hl 0 rfl) ?_
  refine lv_iconst (v := 0) hx hb dX12_takeNode_11 ci_0 ?_
  refine lv_aload_n hx hb dX12_takeNode_12 rfl (lv_at hl 0 rfl) ?_
  refine g_get C hw gM_3 dX12_takeNode_13 ?_
  refine lv_iconst (v := 1) hx hb dX12_takeNode_16 ci_1 ?_
  refine lv_isub hx hb dX12_takeNode_17 ?_
  obtain ⟨r18, iv18, ar18, hc18, hm⟩ := ob_some hm
  refine g_calli (As := [.int 0, .int ((iv 3) - 1)]) (rest := [.int ((iv 31) - 1), .ref (ad 34)]) C hw (kX12_take hc18) mtX12_take lkX12_214 oM hl.1 rfl rfl (Nat.le_of_ble_eq_true rfl) ⟨Nat.le_of_ble_eq_true rfl, Nat.le_of_ble_eq_true rfl⟩ dX12_takeNode_18 ⟨Nat.zero_le _, Nat.zero_le _⟩ (fun H locs hw => ?_)
  obtain ⟨hi, hm⟩ := it_a hm
  refine g_ast C hw sM_34 hi dX12_takeNode_21 (fun H locs hw => ?_)
  cases hm
  exact g_vret C hw dX12_takeNode_22
def mX12_readChoice (a1 : Int32) (iv : mI) (ar : mA) : Option (Int32 × mI × mA) := ob (mX12_takeNode iv ar) (fun r1 iv1 ar1 => if (iv1 24) = 0 then if a1 < 0 ∨ 200 ≤ a1.toNatClampNeg then none else if (ar1 34 a1.toNatClampNeg) < 0 ∨ 400 ≤ (ar1 34 a1.toNatClampNeg).toNatClampNeg then none else if (ar1 4 (ar1 34 a1.toNatClampNeg).toNatClampNeg) = 6 then ob (mX12_take 0 7 iv1 ar1) (fun r56 iv56 ar56 => if a1 < 0 ∨ 200 ≤ a1.toNatClampNeg then none else if (iv56 24) = 0 then if a1 < 0 ∨ 200 ≤ a1.toNatClampNeg then none else if ((au ar56 35 a1.toNatClampNeg r56) 34 a1.toNatClampNeg) < 0 ∨ 400 ≤ ((au ar56 35 a1.toNatClampNeg r56) 34 a1.toNatClampNeg).toNatClampNeg then none else if a1 < 0 ∨ 200 ≤ a1.toNatClampNeg then none else if ((((au ar56 35 a1.toNatClampNeg r56) 5 ((au ar56 35 a1.toNatClampNeg r56) 34 a1.toNatClampNeg).toNatClampNeg) >>> (((au ar56 35 a1.toNatClampNeg r56) 35 a1.toNatClampNeg) &&& 31)) &&& 1) = 0 then ob (mX12_fail (-11) ((iv56 23) - 1) iv56 (au ar56 35 a1.toNatClampNeg r56)) (fun r99 iv99 ar99 => some (0, va_up iv99 24 r99, ar99)) else some (0, iv56, au ar56 35 a1.toNatClampNeg r56) else some (0, iv56, au ar56 35 a1.toNatClampNeg r56)) else ob (mX12_fail (-11) ((iv1 23) - 1) iv1 ar1) (fun r37 iv37 ar37 => some (0, va_up iv37 24 r37, ar37)) else some (0, iv1, ar1))
set_option maxRecDepth 100000 in
set_option maxHeartbeats 4000000 in
theorem kX12_readChoice {a1 : Int32} {iv ivz : mI} {ar arz : mA} {rz : Int32} (hm : mX12_readChoice a1 iv ar = some (rz, ivz, arz)) : CtV l D cI cJ yX12_readChoice cX12_readChoice 3 3 64 [.ref o, .int a1] (wM cI o ad iv ar) (wM cI o ad ivz arz) := by
  intro sz
  refine ct_of (by decide) (Nat.le_of_ble_eq_true rfl) ?_
  intro p e s m args below meth c C hw ls hl
  have hl : lv_has ls 3 [(0, .ref o), (1, .int a1)] := hl
  have hx := C.1.1
  have hb := C.1.2.1
  unfold mX12_readChoice at hm
  refine lv_aload_n hx hb dX12_readChoice_0 rfl (lv_at hl 0 rfl) ?_
  obtain ⟨r1, iv1, ar1, hc1, hm⟩ := ob_some hm
  refine g_callv (As := []) (rest := []) C hw (kX12_takeNode hc1) mtX12_takeNode lkX12_300 oM hl.1 rfl rfl (Nat.le_of_ble_eq_true rfl) ⟨Nat.le_of_ble_eq_true rfl, Nat.le_of_ble_eq_true rfl⟩ dX12_readChoice_1 ⟨Nat.zero_le _, Nat.zero_le _⟩ (fun H locs hw => ?_)
  refine lv_aload_n hx hb dX12_readChoice_4 rfl (lv_at hl 0 rfl) ?_
  refine g_get C hw gM_24 dX12_readChoice_5 ?_
  refine lv_if_eq (tgt := 12) hx hb dX12_readChoice_8 (by decide) (fun hc => ?_) (fun hc => ?_)
  · have hm := it_t hc hm
    refine lv_aload_n hx hb dX12_readChoice_12 rfl (lv_at hl 0 rfl) ?_
    refine g_get C hw gM_4 dX12_readChoice_13 ?_
    refine lv_aload_n hx hb dX12_readChoice_16 rfl (lv_at hl 0 rfl) ?_
    refine g_get C hw gM_34 dX12_readChoice_17 ?_
    refine lv_iload_n hx hb dX12_readChoice_20 rfl (lv_at hl 1 rfl) ?_
    obtain ⟨hi, hm⟩ := it_a hm
    refine g_ald C hw aM_34 hi dX12_readChoice_21 ?_
    obtain ⟨hi, hm⟩ := it_a hm
    refine g_ald C hw aM_4 hi dX12_readChoice_22 ?_
    refine lv_bipush (v := 6) hx hb dX12_readChoice_23 cb_6 ?_
    refine lv_icmp_eq (tgt := 47) hx hb dX12_readChoice_25 (by decide) (fun hc => ?_) (fun hc => ?_)
    · have hm := it_t hc hm
      refine lv_aload_n hx hb dX12_readChoice_47 rfl (lv_at hl 0 rfl) ?_
      refine g_get C hw gM_35 dX12_readChoice_48 ?_
      refine lv_iload_n hx hb dX12_readChoice_51 rfl (lv_at hl 1 rfl) ?_
      refine lv_aload_n hx hb dX12_readChoice_52 rfl (lv_at hl 0 rfl) ?_
      refine lv_iconst (v := 0) hx hb dX12_readChoice_53 ci_0 ?_
      refine lv_bipush (v := 7) hx hb dX12_readChoice_54 cb_7 ?_
      obtain ⟨r56, iv56, ar56, hc56, hm⟩ := ob_some hm
      refine g_calli (As := [.int 0, .int 7]) (rest := [.int a1, .ref (ad 35)]) C hw (kX12_take hc56) mtX12_take lkX12_214 oM hl.1 rfl rfl (Nat.le_of_ble_eq_true rfl) ⟨Nat.le_of_ble_eq_true rfl, Nat.le_of_ble_eq_true rfl⟩ dX12_readChoice_56 ⟨Nat.zero_le _, Nat.zero_le _⟩ (fun H locs hw => ?_)
      obtain ⟨hi, hm⟩ := it_a hm
      refine g_ast C hw sM_35 hi dX12_readChoice_59 (fun H locs hw => ?_)
      refine lv_aload_n hx hb dX12_readChoice_60 rfl (lv_at hl 0 rfl) ?_
      refine g_get C hw gM_24 dX12_readChoice_61 ?_
      refine lv_if_ne (tgt := 108) hx hb dX12_readChoice_64 (by decide) (fun hc => ?_) (fun hc => ?_)
      · have hm := it_f hc hm
        cases hm
        exact g_vret C hw dX12_readChoice_108
      · have hm := it_t hc hm
        refine lv_aload_n hx hb dX12_readChoice_67 rfl (lv_at hl 0 rfl) ?_
        refine g_get C hw gM_5 dX12_readChoice_68 ?_
        refine lv_aload_n hx hb dX12_readChoice_71 rfl (lv_at hl 0 rfl) ?_
        refine g_get C hw gM_34 dX12_readChoice_72 ?_
        refine lv_iload_n hx hb dX12_readChoice_75 rfl (lv_at hl 1 rfl) ?_
        obtain ⟨hi, hm⟩ := it_a hm
        refine g_ald C hw aM_34 hi dX12_readChoice_76 ?_
        obtain ⟨hi, hm⟩ := it_a hm
        refine g_ald C hw aM_5 hi dX12_readChoice_77 ?_
        refine lv_aload_n hx hb dX12_readChoice_78 rfl (lv_at hl 0 rfl) ?_
        refine g_get C hw gM_35 dX12_readChoice_79 ?_
        refine lv_iload_n hx hb dX12_readChoice_82 rfl (lv_at hl 1 rfl) ?_
        obtain ⟨hi, hm⟩ := it_a hm
        refine g_ald C hw aM_35 hi dX12_readChoice_83 ?_
        refine lv_ishr hx hb dX12_readChoice_84 ?_
        refine lv_iconst (v := 1) hx hb dX12_readChoice_85 ci_1 ?_
        refine lv_iand hx hb dX12_readChoice_86 ?_
        refine lv_if_ne (tgt := 108) hx hb dX12_readChoice_87 (by decide) (fun hc => ?_) (fun hc => ?_)
        · have hm := it_f hc hm
          cases hm
          exact g_vret C hw dX12_readChoice_108
        · have hm := it_t hc hm
          refine lv_aload_n hx hb dX12_readChoice_90 rfl (lv_at hl 0 rfl) ?_
          refine lv_bipush (v := (-11)) hx hb dX12_readChoice_91 cb_m11 ?_
          refine lv_aload_n hx hb dX12_readChoice_93 rfl (lv_at hl 0 rfl) ?_
          refine g_get C hw gM_23 dX12_readChoice_94 ?_
          refine lv_iconst (v := 1) hx hb dX12_readChoice_97 ci_1 ?_
          refine lv_isub hx hb dX12_readChoice_98 ?_
          obtain ⟨r99, iv99, ar99, hc99, hm⟩ := ob_some hm
          refine g_calli (As := [.int (-11), .int ((iv56 23) - 1)]) (rest := []) C hw (kX12_fail hc99) mtX12_fail lkX12_207 oM hl.1 rfl rfl (Nat.le_of_ble_eq_true rfl) ⟨Nat.le_of_ble_eq_true rfl, Nat.le_of_ble_eq_true rfl⟩ dX12_readChoice_99 ⟨Nat.zero_le _, Nat.zero_le _⟩ (fun H locs hw => ?_)
          refine lv_istore_n (lv' := [(2, .int r99), (0, .ref o), (1, .int a1)]) hx hb dX12_readChoice_102 rfl hl (by decide) rfl (fun ls hl => ?_)
          refine lv_aload_n hx hb dX12_readChoice_103 rfl (lv_at hl 1 rfl) ?_
          refine lv_iload_n hx hb dX12_readChoice_104 rfl (lv_at hl 0 rfl) ?_
          refine g_put C hw pM_24 dX12_readChoice_105 (fun H locs hw => ?_)
          cases hm
          exact g_vret C hw dX12_readChoice_108
    · have hm := it_f hc hm
      refine lv_aload_n hx hb dX12_readChoice_28 rfl (lv_at hl 0 rfl) ?_
      refine lv_bipush (v := (-11)) hx hb dX12_readChoice_29 cb_m11 ?_
      refine lv_aload_n hx hb dX12_readChoice_31 rfl (lv_at hl 0 rfl) ?_
      refine g_get C hw gM_23 dX12_readChoice_32 ?_
      refine lv_iconst (v := 1) hx hb dX12_readChoice_35 ci_1 ?_
      refine lv_isub hx hb dX12_readChoice_36 ?_
      obtain ⟨r37, iv37, ar37, hc37, hm⟩ := ob_some hm
      refine g_calli (As := [.int (-11), .int ((iv1 23) - 1)]) (rest := []) C hw (kX12_fail hc37) mtX12_fail lkX12_207 oM hl.1 rfl rfl (Nat.le_of_ble_eq_true rfl) ⟨Nat.le_of_ble_eq_true rfl, Nat.le_of_ble_eq_true rfl⟩ dX12_readChoice_37 ⟨Nat.zero_le _, Nat.zero_le _⟩ (fun H locs hw => ?_)
      refine lv_istore_n (lv' := [(2, .int r37), (0, .ref o), (1, .int a1)]) hx hb dX12_readChoice_40 rfl hl (by decide) rfl (fun ls hl => ?_)
      refine lv_aload_n hx hb dX12_readChoice_41 rfl (lv_at hl 1 rfl) ?_
      refine lv_iload_n hx hb dX12_readChoice_42 rfl (lv_at hl 0 rfl) ?_
      refine g_put C hw pM_24 dX12_readChoice_43 (fun H locs hw => ?_)
      cases hm
      exact g_vret C hw dX12_readChoice_46
  · have hm := it_f hc hm
    cases hm
    exact g_vret C hw dX12_readChoice_11
def mX12_readTermWord_J290 (l6 : Int32) (iv : mI) (ar : mA) : Option (Int32 × mI × mA) := if (iv 24) = 0 then some (l6, iv, ar) else some (0, iv, ar)
set_option maxRecDepth 100000 in
set_option maxHeartbeats 4000000 in
theorem wX12_readTermWord_J290 (C : mCx p s m args meth c RX12 cX12_readTermWord 7 (some .int) D cI cJ A) : ∀ (l6 : Int32) (iv : mI) (ar : mA) (rz : Int32) (ivz : mI) (arz : mA), mX12_readTermWord_J290 l6 iv ar = some (rz, ivz, arz) → ∀ (H : Heap) (locs : List Loc) (ls : Array Slot), lv_has ls 7 [(0, .ref o), (6, .int l6)] → inW D A s (wM cI o ad iv ar) H locs → W p l e (rmO 4 86) s m args below meth c H locs 0 0 (MQ below (ctQ D cI cJ (wM cI o ad ivz arz) A rz) args s 0 0 A) (F0 m 290 ls []) := by
  intro l6 iv ar rz ivz arz hm H locs ls hl hw
  have hx := C.1.1
  have hb := C.1.2.1
  unfold mX12_readTermWord_J290 at hm
  refine lv_aload_n hx hb dX12_readTermWord_290 rfl (lv_at hl 0 rfl) ?_
  refine g_get C hw gM_24 dX12_readTermWord_291 ?_
  refine lv_if_eq (tgt := 301) hx hb dX12_readTermWord_294 (by decide) (fun hc => ?_) (fun hc => ?_)
  · have hm := it_t hc hm
    refine lv_iload hx hb dX12_readTermWord_301 (lv_at hl 1 rfl) ?_
    cases hm
    exact g_iret C hw dX12_readTermWord_303
  · have hm := it_f hc hm
    refine lv_iconst (v := 0) hx hb dX12_readTermWord_297 ci_0 ?_
    refine lv_goto (tgt := 303) hx hb dX12_readTermWord_298 (by decide) ?_
    cases hm
    exact g_iret C hw dX12_readTermWord_303
def mX12_readTermWord_J28 (l1 : Int32) (l3 : Int32) (s0 : Int32) (s1 : Int32) (iv : mI) (ar : mA) : Option (Int32 × mI × mA) := ob (mX12_take s1 s0 iv ar) (fun r28 iv28 ar28 => if (iv28 24) = 0 then if (iv28 31) < 0 ∨ 200 ≤ (iv28 31).toNatClampNeg then none else if (iv28 31) < 0 ∨ 200 ≤ (iv28 31).toNatClampNeg then none else if (iv28 31) < 0 ∨ 200 ≤ (iv28 31).toNatClampNeg then none else if (iv28 31) < 0 ∨ 200 ≤ (iv28 31).toNatClampNeg then none else if (iv28 31) < 0 ∨ 200 ≤ (iv28 31).toNatClampNeg then none else ob (mX12_wants r28 (va_up iv28 31 ((iv28 31) + 1)) (au (au (au (au (au ar28 32 (iv28 31).toNatClampNeg r28) 33 (iv28 31).toNatClampNeg l3) 34 (iv28 31).toNatClampNeg 0) 35 (iv28 31).toNatClampNeg 0) 38 (iv28 31).toNatClampNeg 0)) (fun r101 iv101 ar101 => if r28 = 20 then ob (mX12_take 0 (l1 - 1) iv101 ar101) (fun r191 iv191 ar191 => if (iv28 31) < 0 ∨ 200 ≤ (iv28 31).toNatClampNeg then none else mX12_readTermWord_J290 r101 iv191 (au ar191 34 (iv28 31).toNatClampNeg r191)) else if r28 = 21 then ob (mX12_takeNode iv101 ar101) (fun r199 iv199 ar199 => mX12_readTermWord_J290 r101 iv199 ar199) else if r28 = 22 then mX12_readTermWord_J290 r101 iv101 ar101 else if r28 = 23 then ob (mX12_take (-2147483648) 2147483647 iv101 ar101) (fun r218 iv218 ar218 => if (iv28 31) < 0 ∨ 200 ≤ (iv28 31).toNatClampNeg then none else mX12_readTermWord_J290 r101 iv218 (au ar218 34 (iv28 31).toNatClampNeg r218)) else if r28 = 24 then mX12_readTermWord_J290 r101 iv101 ar101 else if r28 = 25 then mX12_readTermWord_J290 r101 iv101 ar101 else if r28 = 26 then mX12_readTermWord_J290 r101 iv101 ar101 else if r28 = 27 then mX12_readTermWord_J290 r101 iv101 ar101 else if r28 = 28 then mX12_readTermWord_J290 r101 iv101 ar101 else if r28 = 29 then ob (mX12_take 0 8 iv101 ar101) (fun r229 iv229 ar229 => if (iv28 31) < 0 ∨ 200 ≤ (iv28 31).toNatClampNeg then none else if r28 = 32 then mX12_readTermWord_J290 (r229 + 1) iv229 (au ar229 34 (iv28 31).toNatClampNeg r229) else mX12_readTermWord_J290 r229 iv229 (au ar229 34 (iv28 31).toNatClampNeg r229)) else if r28 = 30 then ob (mX12_take 0 7 iv101 ar101) (fun r274 iv274 ar274 => if (iv28 31) < 0 ∨ 200 ≤ (iv28 31).toNatClampNeg then none else mX12_readTermWord_J290 r101 iv274 (au ar274 35 (iv28 31).toNatClampNeg r274)) else if r28 = 31 then ob (mX12_readChoice (iv28 31) iv101 ar101) (fun r284 iv284 ar284 => mX12_readTermWord_J290 r101 iv284 ar284) else if r28 = 32 then ob (mX12_take 0 8 iv101 ar101) (fun r229 iv229 ar229 => if (iv28 31) < 0 ∨ 200 ≤ (iv28 31).toNatClampNeg then none else if r28 = 32 then mX12_readTermWord_J290 (r229 + 1) iv229 (au ar229 34 (iv28 31).toNatClampNeg r229) else mX12_readTermWord_J290 r229 iv229 (au ar229 34 (iv28 31).toNatClampNeg r229)) else if r28 = 33 then ob (mX12_takeNode iv101 ar101) (fun r199 iv199 ar199 => mX12_readTermWord_J290 r101 iv199 ar199) else mX12_readTermWord_J290 r101 iv101 ar101) else some (0, iv28, ar28))
set_option maxRecDepth 100000 in
set_option maxHeartbeats 4000000 in
theorem wX12_readTermWord_J28 (C : mCx p s m args meth c RX12 cX12_readTermWord 7 (some .int) D cI cJ A) : ∀ (l1 : Int32) (l3 : Int32) (s0 : Int32) (s1 : Int32) (iv : mI) (ar : mA) (rz : Int32) (ivz : mI) (arz : mA), mX12_readTermWord_J28 l1 l3 s0 s1 iv ar = some (rz, ivz, arz) → ∀ (H : Heap) (locs : List Loc) (ls : Array Slot), lv_has ls 7 [(0, .ref o), (1, .int l1), (3, .int l3)] → inW D A s (wM cI o ad iv ar) H locs → W p l e (rmO 4 86) s m args below meth c H locs 0 0 (MQ below (ctQ D cI cJ (wM cI o ad ivz arz) A rz) args s 0 0 A) (F0 m 28 ls [.int s0, .int s1, .ref o]) := by
  intro l1 l3 s0 s1 iv ar rz ivz arz hm H locs ls hl hw
  have hx := C.1.1
  have hb := C.1.2.1
  have hown := C.1.2.2.2.1
  unfold mX12_readTermWord_J28 at hm
  obtain ⟨r28, iv28, ar28, hc28, hm⟩ := ob_some hm
  refine g_calli (As := [.int s1, .int s0]) (rest := []) C hw (kX12_take hc28) mtX12_take lkX12_214 oM hl.1 rfl rfl (Nat.le_of_ble_eq_true rfl) ⟨Nat.le_of_ble_eq_true rfl, Nat.le_of_ble_eq_true rfl⟩ dX12_readTermWord_28 ⟨Nat.zero_le _, Nat.zero_le _⟩ (fun H locs hw => ?_)
  refine lv_istore (lv' := [(4, .int r28), (0, .ref o), (1, .int l1), (3, .int l3)]) hx hb dX12_readTermWord_31 hl (by decide) rfl (fun ls hl => ?_)
  refine lv_aload_n hx hb dX12_readTermWord_33 rfl (lv_at hl 1 rfl) ?_
  refine g_get C hw gM_24 dX12_readTermWord_34 ?_
  refine lv_if_eq (tgt := 42) hx hb dX12_readTermWord_37 (by decide) (fun hc => ?_) (fun hc => ?_)
  · have hm := it_t hc hm
    refine lv_aload_n hx hb dX12_readTermWord_42 rfl (lv_at hl 1 rfl) ?_
    refine g_get C hw gM_31 dX12_readTermWord_43 ?_
    refine lv_istore (lv' := [(5, .int (iv28 31)), (4, .int r28), (0, .ref o), (1, .int l1), (3, .int l3)]) hx hb dX12_readTermWord_46 hl (by decide) rfl (fun ls hl => ?_)
    refine lv_aload_n hx hb dX12_readTermWord_48 rfl (lv_at hl 2 rfl) ?_
    refine lv_dup hx hb dX12_readTermWord_49 rfl ?_
    refine g_get C hw gM_31 dX12_readTermWord_50 ?_
    refine lv_iconst (v := 1) hx hb dX12_readTermWord_53 ci_1 ?_
    refine lv_iadd hx hb dX12_readTermWord_54 ?_
    refine g_put C hw pM_31 dX12_readTermWord_55 (fun H locs hw => ?_)
    refine lv_aload_n hx hb dX12_readTermWord_58 rfl (lv_at hl 2 rfl) ?_
    refine g_get C hw gM_32 dX12_readTermWord_59 ?_
    refine lv_iload hx hb dX12_readTermWord_62 (lv_at hl 0 rfl) ?_
    refine lv_iload hx hb dX12_readTermWord_64 (lv_at hl 1 rfl) ?_
    obtain ⟨hi, hm⟩ := it_a hm
    refine g_ast C hw sM_32 hi dX12_readTermWord_66 (fun H locs hw => ?_)
    refine lv_aload_n hx hb dX12_readTermWord_67 rfl (lv_at hl 2 rfl) ?_
    refine g_get C hw gM_33 dX12_readTermWord_68 ?_
    refine lv_iload hx hb dX12_readTermWord_71 (lv_at hl 0 rfl) ?_
    refine lv_iload_n hx hb dX12_readTermWord_73 rfl (lv_at hl 4 rfl) ?_
    obtain ⟨hi, hm⟩ := it_a hm
    refine g_ast C hw sM_33 hi dX12_readTermWord_74 (fun H locs hw => ?_)
    refine lv_aload_n hx hb dX12_readTermWord_75 rfl (lv_at hl 2 rfl) ?_
    refine g_get C hw gM_34 dX12_readTermWord_76 ?_
    refine lv_iload hx hb dX12_readTermWord_79 (lv_at hl 0 rfl) ?_
    refine lv_iconst (v := 0) hx hb dX12_readTermWord_81 ci_0 ?_
    obtain ⟨hi, hm⟩ := it_a hm
    refine g_ast C hw sM_34 hi dX12_readTermWord_82 (fun H locs hw => ?_)
    refine lv_aload_n hx hb dX12_readTermWord_83 rfl (lv_at hl 2 rfl) ?_
    refine g_get C hw gM_35 dX12_readTermWord_84 ?_
    refine lv_iload hx hb dX12_readTermWord_87 (lv_at hl 0 rfl) ?_
    refine lv_iconst (v := 0) hx hb dX12_readTermWord_89 ci_0 ?_
    obtain ⟨hi, hm⟩ := it_a hm
    refine g_ast C hw sM_35 hi dX12_readTermWord_90 (fun H locs hw => ?_)
    refine lv_aload_n hx hb dX12_readTermWord_91 rfl (lv_at hl 2 rfl) ?_
    refine g_get C hw gM_38 dX12_readTermWord_92 ?_
    refine lv_iload hx hb dX12_readTermWord_95 (lv_at hl 0 rfl) ?_
    refine lv_iconst (v := 0) hx hb dX12_readTermWord_97 ci_0 ?_
    obtain ⟨hi, hm⟩ := it_a hm
    refine g_ast C hw sM_38 hi dX12_readTermWord_98 (fun H locs hw => ?_)
    refine lv_iload hx hb dX12_readTermWord_99 (lv_at hl 1 rfl) ?_
    obtain ⟨r101, iv101, ar101, hc101, hm⟩ := ob_some hm
    refine g_calls (As := [.int r28]) (rest := []) C hw (kX12_wants hc101) stX12_wants lkX12_297 hl.1 rfl rfl (Nat.le_of_ble_eq_true rfl) ⟨Nat.le_of_ble_eq_true rfl, Nat.le_of_ble_eq_true rfl⟩ dX12_readTermWord_101 ⟨Nat.zero_le _, Nat.zero_le _⟩ (fun H locs hw => ?_)
    refine lv_istore (lv' := [(6, .int r101), (5, .int (iv28 31)), (4, .int r28), (0, .ref o), (1, .int l1), (3, .int l3)]) hx hb dX12_readTermWord_104 hl (by decide) rfl (fun ls hl => ?_)
    refine lv_iload hx hb dX12_readTermWord_106 (lv_at hl 2 rfl) ?_
    refine br_by (c := r28 = 20) (fun hc => ?_) (fun hc20 => ?_)
    · have hm := it_t hc hm
      refine lv_tableIn (off := 72) (tgt := 180) hx hb dX12_readTermWord_108 (by rw [hc]; decide) (by rw [hc]; decide) (by rw [hc]; rfl) (by decide) ?_
      refine lv_aload_n hx hb dX12_readTermWord_180 rfl (lv_at hl 3 rfl) ?_
      refine g_get C hw gM_34 dX12_readTermWord_181 ?_
      refine lv_iload hx hb dX12_readTermWord_184 (lv_at hl 1 rfl) ?_
      refine lv_aload_n hx hb dX12_readTermWord_186 rfl (lv_at hl 3 rfl) ?_
      refine lv_iconst (v := 0) hx hb dX12_readTermWord_187 ci_0 ?_
      refine lv_iload_n hx hb dX12_readTermWord_188 rfl (lv_at hl 4 rfl) ?_
      refine lv_iconst (v := 1) hx hb dX12_readTermWord_189 ci_1 ?_
      refine lv_isub hx hb dX12_readTermWord_190 ?_
      obtain ⟨r191, iv191, ar191, hc191, hm⟩ := ob_some hm
      refine g_calli (As := [.int 0, .int (l1 - 1)]) (rest := [.int (iv28 31), .ref (ad 34)]) C hw (kX12_take hc191) mtX12_take lkX12_214 oM hl.1 rfl rfl (Nat.le_of_ble_eq_true rfl) ⟨Nat.le_of_ble_eq_true rfl, Nat.le_of_ble_eq_true rfl⟩ dX12_readTermWord_191 ⟨Nat.zero_le _, Nat.zero_le _⟩ (fun H locs hw => ?_)
      obtain ⟨hi, hm⟩ := it_a hm
      refine g_ast C hw sM_34 hi dX12_readTermWord_194 (fun H locs hw => ?_)
      refine lv_goto (tgt := 290) hx hb dX12_readTermWord_195 (by decide) ?_
      exact wX12_readTermWord_J290 C _ _ _ _ _ _ hm _ _ _ (lv_sub hl [3, 0] rfl) hw
    · have hm := it_f hc20 hm
      refine br_by (c := r28 = 21) (fun hc => ?_) (fun hc21 => ?_)
      · have hm := it_t hc hm
        refine lv_tableIn (off := 90) (tgt := 198) hx hb dX12_readTermWord_108 (by rw [hc]; decide) (by rw [hc]; decide) (by rw [hc]; rfl) (by decide) ?_
        refine lv_aload_n hx hb dX12_readTermWord_198 rfl (lv_at hl 3 rfl) ?_
        obtain ⟨r199, iv199, ar199, hc199, hm⟩ := ob_some hm
        refine g_callv (As := []) (rest := []) C hw (kX12_takeNode hc199) mtX12_takeNode lkX12_300 oM hl.1 rfl rfl (Nat.le_of_ble_eq_true rfl) ⟨Nat.le_of_ble_eq_true rfl, Nat.le_of_ble_eq_true rfl⟩ dX12_readTermWord_199 ⟨Nat.zero_le _, Nat.zero_le _⟩ (fun H locs hw => ?_)
        refine lv_goto (tgt := 290) hx hb dX12_readTermWord_202 (by decide) ?_
        exact wX12_readTermWord_J290 C _ _ _ _ _ _ hm _ _ _ (lv_sub hl [3, 0] rfl) hw
      · have hm := it_f hc21 hm
        refine br_by (c := r28 = 22) (fun hc => ?_) (fun hc22 => ?_)
        · have hm := it_t hc hm
          refine lv_tableIn (off := 182) (tgt := 290) hx hb dX12_readTermWord_108 (by rw [hc]; decide) (by rw [hc]; decide) (by rw [hc]; rfl) (by decide) ?_
          exact wX12_readTermWord_J290 C _ _ _ _ _ _ hm _ _ _ (lv_sub hl [3, 0] rfl) hw
        · have hm := it_f hc22 hm
          refine br_by (c := r28 = 23) (fun hc => ?_) (fun hc23 => ?_)
          · have hm := it_t hc hm
            refine lv_tableIn (off := 97) (tgt := 205) hx hb dX12_readTermWord_108 (by rw [hc]; decide) (by rw [hc]; decide) (by rw [hc]; rfl) (by decide) ?_
            refine lv_aload_n hx hb dX12_readTermWord_205 rfl (lv_at hl 3 rfl) ?_
            refine g_get C hw gM_34 dX12_readTermWord_206 ?_
            refine lv_iload hx hb dX12_readTermWord_209 (lv_at hl 1 rfl) ?_
            refine lv_aload_n hx hb dX12_readTermWord_211 rfl (lv_at hl 3 rfl) ?_
            refine lv_ldcw hx hb hown (C.1.2.2.2.2 _ cstX12_303) dX12_readTermWord_212 ?_
            refine lv_ldcw hx hb hown (C.1.2.2.2.2 _ cstX12_304) dX12_readTermWord_215 ?_
            obtain ⟨r218, iv218, ar218, hc218, hm⟩ := ob_some hm
            refine g_calli (As := [.int (-2147483648), .int 2147483647]) (rest := [.int (iv28 31), .ref (ad 34)]) C hw (kX12_take hc218) mtX12_take lkX12_214 oM hl.1 rfl rfl (Nat.le_of_ble_eq_true rfl) ⟨Nat.le_of_ble_eq_true rfl, Nat.le_of_ble_eq_true rfl⟩ dX12_readTermWord_218 ⟨Nat.zero_le _, Nat.zero_le _⟩ (fun H locs hw => ?_)
            obtain ⟨hi, hm⟩ := it_a hm
            refine g_ast C hw sM_34 hi dX12_readTermWord_221 (fun H locs hw => ?_)
            refine lv_goto (tgt := 290) hx hb dX12_readTermWord_222 (by decide) ?_
            exact wX12_readTermWord_J290 C _ _ _ _ _ _ hm _ _ _ (lv_sub hl [3, 0] rfl) hw
          · have hm := it_f hc23 hm
            refine br_by (c := r28 = 24) (fun hc => ?_) (fun hc24 => ?_)
            · have hm := it_t hc hm
              refine lv_tableIn (off := 182) (tgt := 290) hx hb dX12_readTermWord_108 (by rw [hc]; decide) (by rw [hc]; decide) (by rw [hc]; rfl) (by decide) ?_
              exact wX12_readTermWord_J290 C _ _ _ _ _ _ hm _ _ _ (lv_sub hl [3, 0] rfl) hw
            · have hm := it_f hc24 hm
              refine br_by (c := r28 = 25) (fun hc => ?_) (fun hc25 => ?_)
              · have hm := it_t hc hm
                refine lv_tableIn (off := 182) (tgt := 290) hx hb dX12_readTermWord_108 (by rw [hc]; decide) (by rw [hc]; decide) (by rw [hc]; rfl) (by decide) ?_
                exact wX12_readTermWord_J290 C _ _ _ _ _ _ hm _ _ _ (lv_sub hl [3, 0] rfl) hw
              · have hm := it_f hc25 hm
                refine br_by (c := r28 = 26) (fun hc => ?_) (fun hc26 => ?_)
                · have hm := it_t hc hm
                  refine lv_tableIn (off := 182) (tgt := 290) hx hb dX12_readTermWord_108 (by rw [hc]; decide) (by rw [hc]; decide) (by rw [hc]; rfl) (by decide) ?_
                  exact wX12_readTermWord_J290 C _ _ _ _ _ _ hm _ _ _ (lv_sub hl [3, 0] rfl) hw
                · have hm := it_f hc26 hm
                  refine br_by (c := r28 = 27) (fun hc => ?_) (fun hc27 => ?_)
                  · have hm := it_t hc hm
                    refine lv_tableIn (off := 182) (tgt := 290) hx hb dX12_readTermWord_108 (by rw [hc]; decide) (by rw [hc]; decide) (by rw [hc]; rfl) (by decide) ?_
                    exact wX12_readTermWord_J290 C _ _ _ _ _ _ hm _ _ _ (lv_sub hl [3, 0] rfl) hw
                  · have hm := it_f hc27 hm
                    refine br_by (c := r28 = 28) (fun hc => ?_) (fun hc28 => ?_)
                    · have hm := it_t hc hm
                      refine lv_tableIn (off := 182) (tgt := 290) hx hb dX12_readTermWord_108 (by rw [hc]; decide) (by rw [hc]; decide) (by rw [hc]; rfl) (by decide) ?_
                      exact wX12_readTermWord_J290 C _ _ _ _ _ _ hm _ _ _ (lv_sub hl [3, 0] rfl) hw
                    · have hm := it_f hc28 hm
                      refine br_by (c := r28 = 29) (fun hc => ?_) (fun hc29 => ?_)
                      · have hm := it_t hc hm
                        refine lv_tableIn (off := 117) (tgt := 225) hx hb dX12_readTermWord_108 (by rw [hc]; decide) (by rw [hc]; decide) (by rw [hc]; rfl) (by decide) ?_
                        refine lv_aload_n hx hb dX12_readTermWord_225 rfl (lv_at hl 3 rfl) ?_
                        refine lv_iconst (v := 0) hx hb dX12_readTermWord_226 ci_0 ?_
                        refine lv_bipush (v := 8) hx hb dX12_readTermWord_227 cb_8 ?_
                        obtain ⟨r229, iv229, ar229, hc229, hm⟩ := ob_some hm
                        refine g_calli (As := [.int 0, .int 8]) (rest := []) C hw (kX12_take hc229) mtX12_take lkX12_214 oM hl.1 rfl rfl (Nat.le_of_ble_eq_true rfl) ⟨Nat.le_of_ble_eq_true rfl, Nat.le_of_ble_eq_true rfl⟩ dX12_readTermWord_229 ⟨Nat.zero_le _, Nat.zero_le _⟩ (fun H locs hw => ?_)
                        refine lv_istore (lv' := [(6, .int r229), (5, .int (iv28 31)), (4, .int r28), (0, .ref o), (1, .int l1), (3, .int l3)]) hx hb dX12_readTermWord_232 hl (by decide) rfl (fun ls hl => ?_)
                        refine lv_aload_n hx hb dX12_readTermWord_234 rfl (lv_at hl 3 rfl) ?_
                        refine g_get C hw gM_34 dX12_readTermWord_235 ?_
                        refine lv_iload hx hb dX12_readTermWord_238 (lv_at hl 1 rfl) ?_
                        refine lv_iload hx hb dX12_readTermWord_240 (lv_at hl 0 rfl) ?_
                        obtain ⟨hi, hm⟩ := it_a hm
                        refine g_ast C hw sM_34 hi dX12_readTermWord_242 (fun H locs hw => ?_)
                        refine lv_iload hx hb dX12_readTermWord_243 (lv_at hl 2 rfl) ?_
                        refine lv_bipush (v := 32) hx hb dX12_readTermWord_245 cb_32 ?_
                        refine lv_icmp_ne (tgt := 257) hx hb dX12_readTermWord_247 (by decide) (fun hc => ?_) (fun hc => ?_)
                        · have hm := it_f hc hm
                          refine lv_iload hx hb dX12_readTermWord_257 (lv_at hl 0 rfl) ?_
                          refine lv_istore (lv' := [(6, .int r229), (5, .int (iv28 31)), (4, .int r28), (0, .ref o), (1, .int l1), (3, .int l3)]) hx hb dX12_readTermWord_259 hl (by decide) rfl (fun ls hl => ?_)
                          refine lv_goto (tgt := 290) hx hb dX12_readTermWord_261 (by decide) ?_
                          exact wX12_readTermWord_J290 C _ _ _ _ _ _ hm _ _ _ (lv_sub hl [3, 0] rfl) hw
                        · have hm := it_t hc hm
                          refine lv_iload hx hb dX12_readTermWord_250 (lv_at hl 0 rfl) ?_
                          refine lv_iconst (v := 1) hx hb dX12_readTermWord_252 ci_1 ?_
                          refine lv_iadd hx hb dX12_readTermWord_253 ?_
                          refine lv_goto (tgt := 259) hx hb dX12_readTermWord_254 (by decide) ?_
                          refine lv_istore (lv' := [(6, .int (r229 + 1)), (5, .int (iv28 31)), (4, .int r28), (0, .ref o), (1, .int l1), (3, .int l3)]) hx hb dX12_readTermWord_259 hl (by decide) rfl (fun ls hl => ?_)
                          refine lv_goto (tgt := 290) hx hb dX12_readTermWord_261 (by decide) ?_
                          exact wX12_readTermWord_J290 C _ _ _ _ _ _ hm _ _ _ (lv_sub hl [3, 0] rfl) hw
                      · have hm := it_f hc29 hm
                        refine br_by (c := r28 = 30) (fun hc => ?_) (fun hc30 => ?_)
                        · have hm := it_t hc hm
                          refine lv_tableIn (off := 156) (tgt := 264) hx hb dX12_readTermWord_108 (by rw [hc]; decide) (by rw [hc]; decide) (by rw [hc]; rfl) (by decide) ?_
                          refine lv_aload_n hx hb dX12_readTermWord_264 rfl (lv_at hl 3 rfl) ?_
                          refine g_get C hw gM_35 dX12_readTermWord_265 ?_
                          refine lv_iload hx hb dX12_readTermWord_268 (lv_at hl 1 rfl) ?_
                          refine lv_aload_n hx hb dX12_readTermWord_270 rfl (lv_at hl 3 rfl) ?_
                          refine lv_iconst (v := 0) hx hb dX12_readTermWord_271 ci_0 ?_
                          refine lv_bipush (v := 7) hx hb dX12_readTermWord_272 cb_7 ?_
                          obtain ⟨r274, iv274, ar274, hc274, hm⟩ := ob_some hm
                          refine g_calli (As := [.int 0, .int 7]) (rest := [.int (iv28 31), .ref (ad 35)]) C hw (kX12_take hc274) mtX12_take lkX12_214 oM hl.1 rfl rfl (Nat.le_of_ble_eq_true rfl) ⟨Nat.le_of_ble_eq_true rfl, Nat.le_of_ble_eq_true rfl⟩ dX12_readTermWord_274 ⟨Nat.zero_le _, Nat.zero_le _⟩ (fun H locs hw => ?_)
                          obtain ⟨hi, hm⟩ := it_a hm
                          refine g_ast C hw sM_35 hi dX12_readTermWord_277 (fun H locs hw => ?_)
                          refine lv_goto (tgt := 290) hx hb dX12_readTermWord_278 (by decide) ?_
                          exact wX12_readTermWord_J290 C _ _ _ _ _ _ hm _ _ _ (lv_sub hl [3, 0] rfl) hw
                        · have hm := it_f hc30 hm
                          refine br_by (c := r28 = 31) (fun hc => ?_) (fun hc31 => ?_)
                          · have hm := it_t hc hm
                            refine lv_tableIn (off := 173) (tgt := 281) hx hb dX12_readTermWord_108 (by rw [hc]; decide) (by rw [hc]; decide) (by rw [hc]; rfl) (by decide) ?_
                            refine lv_aload_n hx hb dX12_readTermWord_281 rfl (lv_at hl 3 rfl) ?_
                            refine lv_iload hx hb dX12_readTermWord_282 (lv_at hl 1 rfl) ?_
                            obtain ⟨r284, iv284, ar284, hc284, hm⟩ := ob_some hm
                            refine g_callv (As := [.int (iv28 31)]) (rest := []) C hw (kX12_readChoice hc284) mtX12_readChoice lkX12_305 oM hl.1 rfl rfl (Nat.le_of_ble_eq_true rfl) ⟨Nat.le_of_ble_eq_true rfl, Nat.le_of_ble_eq_true rfl⟩ dX12_readTermWord_284 ⟨Nat.zero_le _, Nat.zero_le _⟩ (fun H locs hw => ?_)
                            refine lv_goto (tgt := 290) hx hb dX12_readTermWord_287 (by decide) ?_
                            exact wX12_readTermWord_J290 C _ _ _ _ _ _ hm _ _ _ (lv_sub hl [3, 0] rfl) hw
                          · have hm := it_f hc31 hm
                            refine br_by (c := r28 = 32) (fun hc => ?_) (fun hc32 => ?_)
                            · have hm := it_t hc hm
                              refine lv_tableIn (off := 117) (tgt := 225) hx hb dX12_readTermWord_108 (by rw [hc]; decide) (by rw [hc]; decide) (by rw [hc]; rfl) (by decide) ?_
                              refine lv_aload_n hx hb dX12_readTermWord_225 rfl (lv_at hl 3 rfl) ?_
                              refine lv_iconst (v := 0) hx hb dX12_readTermWord_226 ci_0 ?_
                              refine lv_bipush (v := 8) hx hb dX12_readTermWord_227 cb_8 ?_
                              obtain ⟨r229, iv229, ar229, hc229, hm⟩ := ob_some hm
                              refine g_calli (As := [.int 0, .int 8]) (rest := []) C hw (kX12_take hc229) mtX12_take lkX12_214 oM hl.1 rfl rfl (Nat.le_of_ble_eq_true rfl) ⟨Nat.le_of_ble_eq_true rfl, Nat.le_of_ble_eq_true rfl⟩ dX12_readTermWord_229 ⟨Nat.zero_le _, Nat.zero_le _⟩ (fun H locs hw => ?_)
                              refine lv_istore (lv' := [(6, .int r229), (5, .int (iv28 31)), (4, .int r28), (0, .ref o), (1, .int l1), (3, .int l3)]) hx hb dX12_readTermWord_232 hl (by decide) rfl (fun ls hl => ?_)
                              refine lv_aload_n hx hb dX12_readTermWord_234 rfl (lv_at hl 3 rfl) ?_
                              refine g_get C hw gM_34 dX12_readTermWord_235 ?_
                              refine lv_iload hx hb dX12_readTermWord_238 (lv_at hl 1 rfl) ?_
                              refine lv_iload hx hb dX12_readTermWord_240 (lv_at hl 0 rfl) ?_
                              obtain ⟨hi, hm⟩ := it_a hm
                              refine g_ast C hw sM_34 hi dX12_readTermWord_242 (fun H locs hw => ?_)
                              refine lv_iload hx hb dX12_readTermWord_243 (lv_at hl 2 rfl) ?_
                              refine lv_bipush (v := 32) hx hb dX12_readTermWord_245 cb_32 ?_
                              refine lv_icmp_ne (tgt := 257) hx hb dX12_readTermWord_247 (by decide) (fun hc => ?_) (fun hc => ?_)
                              · have hm := it_f hc hm
                                refine lv_iload hx hb dX12_readTermWord_257 (lv_at hl 0 rfl) ?_
                                refine lv_istore (lv' := [(6, .int r229), (5, .int (iv28 31)), (4, .int r28), (0, .ref o), (1, .int l1), (3, .int l3)]) hx hb dX12_readTermWord_259 hl (by decide) rfl (fun ls hl => ?_)
                                refine lv_goto (tgt := 290) hx hb dX12_readTermWord_261 (by decide) ?_
                                exact wX12_readTermWord_J290 C _ _ _ _ _ _ hm _ _ _ (lv_sub hl [3, 0] rfl) hw
                              · have hm := it_t hc hm
                                refine lv_iload hx hb dX12_readTermWord_250 (lv_at hl 0 rfl) ?_
                                refine lv_iconst (v := 1) hx hb dX12_readTermWord_252 ci_1 ?_
                                refine lv_iadd hx hb dX12_readTermWord_253 ?_
                                refine lv_goto (tgt := 259) hx hb dX12_readTermWord_254 (by decide) ?_
                                refine lv_istore (lv' := [(6, .int (r229 + 1)), (5, .int (iv28 31)), (4, .int r28), (0, .ref o), (1, .int l1), (3, .int l3)]) hx hb dX12_readTermWord_259 hl (by decide) rfl (fun ls hl => ?_)
                                refine lv_goto (tgt := 290) hx hb dX12_readTermWord_261 (by decide) ?_
                                exact wX12_readTermWord_J290 C _ _ _ _ _ _ hm _ _ _ (lv_sub hl [3, 0] rfl) hw
                            · have hm := it_f hc32 hm
                              refine br_by (c := r28 = 33) (fun hc => ?_) (fun hc33 => ?_)
                              · have hm := it_t hc hm
                                refine lv_tableIn (off := 90) (tgt := 198) hx hb dX12_readTermWord_108 (by rw [hc]; decide) (by rw [hc]; decide) (by rw [hc]; rfl) (by decide) ?_
                                refine lv_aload_n hx hb dX12_readTermWord_198 rfl (lv_at hl 3 rfl) ?_
                                obtain ⟨r199, iv199, ar199, hc199, hm⟩ := ob_some hm
                                refine g_callv (As := []) (rest := []) C hw (kX12_takeNode hc199) mtX12_takeNode lkX12_300 oM hl.1 rfl rfl (Nat.le_of_ble_eq_true rfl) ⟨Nat.le_of_ble_eq_true rfl, Nat.le_of_ble_eq_true rfl⟩ dX12_readTermWord_199 ⟨Nat.zero_le _, Nat.zero_le _⟩ (fun H locs hw => ?_)
                                refine lv_goto (tgt := 290) hx hb dX12_readTermWord_202 (by decide) ?_
                                exact wX12_readTermWord_J290 C _ _ _ _ _ _ hm _ _ _ (lv_sub hl [3, 0] rfl) hw
                              · have hm := it_f hc33 hm
                                have ho : (r28).toInt < 20 ∨ 33 < (r28).toInt := by
                                  have ehc20 := sw_ne (n := 20) hc20 (by decide)
                                  have ehc21 := sw_ne (n := 21) hc21 (by decide)
                                  have ehc22 := sw_ne (n := 22) hc22 (by decide)
                                  have ehc23 := sw_ne (n := 23) hc23 (by decide)
                                  have ehc24 := sw_ne (n := 24) hc24 (by decide)
                                  have ehc25 := sw_ne (n := 25) hc25 (by decide)
                                  have ehc26 := sw_ne (n := 26) hc26 (by decide)
                                  have ehc27 := sw_ne (n := 27) hc27 (by decide)
                                  have ehc28 := sw_ne (n := 28) hc28 (by decide)
                                  have ehc29 := sw_ne (n := 29) hc29 (by decide)
                                  have ehc30 := sw_ne (n := 30) hc30 (by decide)
                                  have ehc31 := sw_ne (n := 31) hc31 (by decide)
                                  have ehc32 := sw_ne (n := 32) hc32 (by decide)
                                  have ehc33 := sw_ne (n := 33) hc33 (by decide)
                                  omega
                                refine lv_tableOut (tgt := 290) hx hb dX12_readTermWord_108 ho (by decide) ?_
                                exact wX12_readTermWord_J290 C _ _ _ _ _ _ hm _ _ _ (lv_sub hl [3, 0] rfl) hw
  · have hm := it_f hc hm
    refine lv_iconst (v := 0) hx hb dX12_readTermWord_40 ci_0 ?_
    cases hm
    exact g_iret C hw dX12_readTermWord_41
def mX12_readTermWord (a1 : Int32) (a2 : Int32) (iv : mI) (ar : mA) : Option (Int32 × mI × mA) := if a2 = 0 then if a2 = 0 then mX12_readTermWord_J28 a1 (iv 23) 33 20 iv ar else mX12_readTermWord_J28 a1 (iv 23) 21 20 iv ar else if a2 = 0 then mX12_readTermWord_J28 a1 (iv 23) 33 21 iv ar else mX12_readTermWord_J28 a1 (iv 23) 21 21 iv ar
set_option maxRecDepth 100000 in
set_option maxHeartbeats 4000000 in
theorem kX12_readTermWord {a1 a2 : Int32} {iv ivz : mI} {ar arz : mA} {rz : Int32} (hm : mX12_readTermWord a1 a2 iv ar = some (rz, ivz, arz)) : Ct l D cI cJ yX12_readTermWord cX12_readTermWord 7 (some .int) 4 86 [.ref o, .int a1, .int a2] (wM cI o ad iv ar) (wM cI o ad ivz arz) rz := by
  intro sz
  refine ct_of (by decide) (Nat.le_of_ble_eq_true rfl) ?_
  intro p e s m args below meth c C hw ls hl
  have hl : lv_has ls 7 [(0, .ref o), (1, .int a1), (2, .int a2)] := hl
  have hx := C.1.1
  have hb := C.1.2.1
  unfold mX12_readTermWord at hm
  refine lv_aload_n hx hb dX12_readTermWord_0 rfl (lv_at hl 0 rfl) ?_
  refine g_get C hw gM_23 dX12_readTermWord_1 ?_
  refine lv_istore_n (lv' := [(3, .int (iv 23)), (0, .ref o), (1, .int a1), (2, .int a2)]) hx hb dX12_readTermWord_4 rfl hl (by decide) rfl (fun ls hl => ?_)
  refine lv_aload_n hx hb dX12_readTermWord_5 rfl (lv_at hl 1 rfl) ?_
  refine lv_iload_n hx hb dX12_readTermWord_6 rfl (lv_at hl 3 rfl) ?_
  refine lv_if_eq (tgt := 15) hx hb dX12_readTermWord_7 (by decide) (fun hc => ?_) (fun hc => ?_)
  · have hm := it_t hc hm
    refine lv_bipush (v := 20) hx hb dX12_readTermWord_15 cb_20 ?_
    refine lv_iload_n hx hb dX12_readTermWord_17 rfl (lv_at hl 3 rfl) ?_
    refine lv_if_eq (tgt := 26) hx hb dX12_readTermWord_18 (by decide) (fun hc => ?_) (fun hc => ?_)
    · have hm := it_t hc hm
      refine lv_bipush (v := 33) hx hb dX12_readTermWord_26 cb_33 ?_
      exact wX12_readTermWord_J28 C _ _ _ _ _ _ _ _ _ hm _ _ _ (lv_sub hl [1, 2, 0] rfl) hw
    · have hm := it_f hc hm
      refine lv_bipush (v := 21) hx hb dX12_readTermWord_21 cb_21 ?_
      refine lv_goto (tgt := 28) hx hb dX12_readTermWord_23 (by decide) ?_
      exact wX12_readTermWord_J28 C _ _ _ _ _ _ _ _ _ hm _ _ _ (lv_sub hl [1, 2, 0] rfl) hw
  · have hm := it_f hc hm
    refine lv_bipush (v := 21) hx hb dX12_readTermWord_10 cb_21 ?_
    refine lv_goto (tgt := 17) hx hb dX12_readTermWord_12 (by decide) ?_
    refine lv_iload_n hx hb dX12_readTermWord_17 rfl (lv_at hl 3 rfl) ?_
    refine lv_if_eq (tgt := 26) hx hb dX12_readTermWord_18 (by decide) (fun hc => ?_) (fun hc => ?_)
    · have hm := it_t hc hm
      refine lv_bipush (v := 33) hx hb dX12_readTermWord_26 cb_33 ?_
      exact wX12_readTermWord_J28 C _ _ _ _ _ _ _ _ _ hm _ _ _ (lv_sub hl [1, 2, 0] rfl) hw
    · have hm := it_f hc hm
      refine lv_bipush (v := 21) hx hb dX12_readTermWord_21 cb_21 ?_
      refine lv_goto (tgt := 28) hx hb dX12_readTermWord_23 (by decide) ?_
      exact wX12_readTermWord_J28 C _ _ _ _ _ _ _ _ _ hm _ _ _ (lv_sub hl [1, 2, 0] rfl) hw
def mX12_isLabelled (a1 : Int32) (iv : mI) (ar : mA) : Option (Int32 × mI × mA) := if a1 < 0 ∨ 200 ≤ a1.toNatClampNeg then none else if (ar 32 a1.toNatClampNeg) = 29 then some (1, iv, ar) else if a1 < 0 ∨ 200 ≤ a1.toNatClampNeg then none else if (ar 32 a1.toNatClampNeg) = 32 then if a1 < 0 ∨ 200 ≤ a1.toNatClampNeg then none else if a1 < 0 ∨ 200 ≤ a1.toNatClampNeg then none else if (ar 34 a1.toNatClampNeg) ≤ (ar 38 a1.toNatClampNeg) then some (0, iv, ar) else some (1, iv, ar) else some (0, iv, ar)
set_option maxRecDepth 100000 in
set_option maxHeartbeats 4000000 in
theorem kX12_isLabelled {a1 : Int32} {iv ivz : mI} {ar arz : mA} {rz : Int32} (hm : mX12_isLabelled a1 iv ar = some (rz, ivz, arz)) : Ct l D cI cJ yX12_isLabelled cX12_isLabelled 2 (some .boolean) 0 0 [.ref o, .int a1] (wM cI o ad iv ar) (wM cI o ad ivz arz) rz := by
  intro sz
  refine ct_of (by decide) (Nat.le_of_ble_eq_true rfl) ?_
  intro p e s m args below meth c C hw ls hl
  have hl : lv_has ls 2 [(0, .ref o), (1, .int a1)] := hl
  have hx := C.1.1
  have hb := C.1.2.1
  unfold mX12_isLabelled at hm
  refine lv_aload_n hx hb dX12_isLabelled_0 rfl (lv_at hl 0 rfl) ?_
  refine g_get C hw gM_32 dX12_isLabelled_1 ?_
  refine lv_iload_n hx hb dX12_isLabelled_4 rfl (lv_at hl 1 rfl) ?_
  obtain ⟨hi, hm⟩ := it_a hm
  refine g_ald C hw aM_32 hi dX12_isLabelled_5 ?_
  refine lv_bipush (v := 29) hx hb dX12_isLabelled_6 cb_29 ?_
  refine lv_icmp_eq (tgt := 37) hx hb dX12_isLabelled_8 (by decide) (fun hc => ?_) (fun hc => ?_)
  · have hm := it_t hc hm
    refine lv_iconst (v := 1) hx hb dX12_isLabelled_37 ci_1 ?_
    refine lv_goto (tgt := 42) hx hb dX12_isLabelled_38 (by decide) ?_
    cases hm
    exact g_zret C hw (Or.inr rfl) dX12_isLabelled_42
  · have hm := it_f hc hm
    refine lv_aload_n hx hb dX12_isLabelled_11 rfl (lv_at hl 0 rfl) ?_
    refine g_get C hw gM_32 dX12_isLabelled_12 ?_
    refine lv_iload_n hx hb dX12_isLabelled_15 rfl (lv_at hl 1 rfl) ?_
    obtain ⟨hi, hm⟩ := it_a hm
    refine g_ald C hw aM_32 hi dX12_isLabelled_16 ?_
    refine lv_bipush (v := 32) hx hb dX12_isLabelled_17 cb_32 ?_
    refine lv_icmp_ne (tgt := 41) hx hb dX12_isLabelled_19 (by decide) (fun hc => ?_) (fun hc => ?_)
    · have hm := it_f hc hm
      refine lv_iconst (v := 0) hx hb dX12_isLabelled_41 ci_0 ?_
      cases hm
      exact g_zret C hw (Or.inl rfl) dX12_isLabelled_42
    · have hm := it_t hc hm
      refine lv_aload_n hx hb dX12_isLabelled_22 rfl (lv_at hl 0 rfl) ?_
      refine g_get C hw gM_38 dX12_isLabelled_23 ?_
      refine lv_iload_n hx hb dX12_isLabelled_26 rfl (lv_at hl 1 rfl) ?_
      obtain ⟨hi, hm⟩ := it_a hm
      refine g_ald C hw aM_38 hi dX12_isLabelled_27 ?_
      refine lv_aload_n hx hb dX12_isLabelled_28 rfl (lv_at hl 0 rfl) ?_
      refine g_get C hw gM_34 dX12_isLabelled_29 ?_
      refine lv_iload_n hx hb dX12_isLabelled_32 rfl (lv_at hl 1 rfl) ?_
      obtain ⟨hi, hm⟩ := it_a hm
      refine g_ald C hw aM_34 hi dX12_isLabelled_33 ?_
      refine lv_icmp_ge (tgt := 41) hx hb dX12_isLabelled_34 (by decide) (fun hc => ?_) (fun hc => ?_)
      · have hm := it_t hc hm
        refine lv_iconst (v := 0) hx hb dX12_isLabelled_41 ci_0 ?_
        cases hm
        exact g_zret C hw (Or.inl rfl) dX12_isLabelled_42
      · have hm := it_f hc hm
        refine lv_iconst (v := 1) hx hb dX12_isLabelled_37 ci_1 ?_
        refine lv_goto (tgt := 42) hx hb dX12_isLabelled_38 (by decide) ?_
        cases hm
        exact g_zret C hw (Or.inr rfl) dX12_isLabelled_42
def mX12_takeTermLabel_J28 (l1 : Int32) (l2 : Int32) (s0 : Int32) (iv : mI) (ar : mA) : Option (Int32 × mI × mA) := ob (mX12_take (s0 + 1) 7 iv ar) (fun r45 iv45 ar45 => if ((9 * l1) + l2) < 0 ∨ 1800 ≤ ((9 * l1) + l2).toNatClampNeg then none else some (0, iv45, au ar45 37 ((9 * l1) + l2).toNatClampNeg r45))
set_option maxRecDepth 100000 in
set_option maxHeartbeats 4000000 in
theorem wX12_takeTermLabel_J28 (C : mCx p s m args meth c RX12 cX12_takeTermLabel 4 none D cI cJ A) : ∀ (l1 : Int32) (l2 : Int32) (s0 : Int32) (iv : mI) (ar : mA) (rz : Int32) (ivz : mI) (arz : mA), mX12_takeTermLabel_J28 l1 l2 s0 iv ar = some (rz, ivz, arz) → ∀ (H : Heap) (locs : List Loc) (ls : Array Slot), lv_has ls 4 [(0, .ref o), (1, .int l1), (2, .int l2)] → inW D A s (wM cI o ad iv ar) H locs → W p l e (rmO 2 44) s m args below meth c H locs 0 0 (MQ below (ctQv D cI cJ (wM cI o ad ivz arz) A) args s 0 0 A) (F0 m 28 ls [.int s0]) := by
  intro l1 l2 s0 iv ar rz ivz arz hm H locs ls hl hw
  have hx := C.1.1
  have hb := C.1.2.1
  unfold mX12_takeTermLabel_J28 at hm
  refine lv_istore_n (lv' := [(3, .int s0), (0, .ref o), (1, .int l1), (2, .int l2)]) hx hb dX12_takeTermLabel_28 rfl hl (by decide) rfl (fun ls hl => ?_)
  refine lv_aload_n hx hb dX12_takeTermLabel_29 rfl (lv_at hl 1 rfl) ?_
  refine g_get C hw gM_37 dX12_takeTermLabel_30 ?_
  refine lv_bipush (v := 9) hx hb dX12_takeTermLabel_33 cb_9 ?_
  refine lv_iload_n hx hb dX12_takeTermLabel_35 rfl (lv_at hl 2 rfl) ?_
  refine lv_imul hx hb dX12_takeTermLabel_36 ?_
  refine lv_iload_n hx hb dX12_takeTermLabel_37 rfl (lv_at hl 3 rfl) ?_
  refine lv_iadd hx hb dX12_takeTermLabel_38 ?_
  refine lv_aload_n hx hb dX12_takeTermLabel_39 rfl (lv_at hl 1 rfl) ?_
  refine lv_iload_n hx hb dX12_takeTermLabel_40 rfl (lv_at hl 0 rfl) ?_
  refine lv_iconst (v := 1) hx hb dX12_takeTermLabel_41 ci_1 ?_
  refine lv_iadd hx hb dX12_takeTermLabel_42 ?_
  refine lv_bipush (v := 7) hx hb dX12_takeTermLabel_43 cb_7 ?_
  obtain ⟨r45, iv45, ar45, hc45, hm⟩ := ob_some hm
  refine g_calli (As := [.int (s0 + 1), .int 7]) (rest := [.int ((9 * l1) + l2), .ref (ad 37)]) C hw (kX12_take hc45) mtX12_take lkX12_214 oM hl.1 rfl rfl (Nat.le_of_ble_eq_true rfl) ⟨Nat.le_of_ble_eq_true rfl, Nat.le_of_ble_eq_true rfl⟩ dX12_takeTermLabel_45 ⟨Nat.zero_le _, Nat.zero_le _⟩ (fun H locs hw => ?_)
  obtain ⟨hi, hm⟩ := it_a hm
  refine g_ast C hw sM_37 hi dX12_takeTermLabel_48 (fun H locs hw => ?_)
  cases hm
  exact g_vret C hw dX12_takeTermLabel_49
def mX12_takeTermLabel (a1 : Int32) (iv : mI) (ar : mA) : Option (Int32 × mI × mA) := if a1 < 0 ∨ 200 ≤ a1.toNatClampNeg then none else if (ar 38 a1.toNatClampNeg) = 0 then mX12_takeTermLabel_J28 a1 (ar 38 a1.toNatClampNeg) (-1) iv ar else if (((9 * a1) + (ar 38 a1.toNatClampNeg)) - 1) < 0 ∨ 1800 ≤ (((9 * a1) + (ar 38 a1.toNatClampNeg)) - 1).toNatClampNeg then none else mX12_takeTermLabel_J28 a1 (ar 38 a1.toNatClampNeg) (ar 37 (((9 * a1) + (ar 38 a1.toNatClampNeg)) - 1).toNatClampNeg) iv ar
set_option maxRecDepth 100000 in
set_option maxHeartbeats 4000000 in
theorem kX12_takeTermLabel {a1 : Int32} {iv ivz : mI} {ar arz : mA} {rz : Int32} (hm : mX12_takeTermLabel a1 iv ar = some (rz, ivz, arz)) : CtV l D cI cJ yX12_takeTermLabel cX12_takeTermLabel 4 2 44 [.ref o, .int a1] (wM cI o ad iv ar) (wM cI o ad ivz arz) := by
  intro sz
  refine ct_of (by decide) (Nat.le_of_ble_eq_true rfl) ?_
  intro p e s m args below meth c C hw ls hl
  have hl : lv_has ls 4 [(0, .ref o), (1, .int a1)] := hl
  have hx := C.1.1
  have hb := C.1.2.1
  unfold mX12_takeTermLabel at hm
  refine lv_aload_n hx hb dX12_takeTermLabel_0 rfl (lv_at hl 0 rfl) ?_
  refine g_get C hw gM_38 dX12_takeTermLabel_1 ?_
  refine lv_iload_n hx hb dX12_takeTermLabel_4 rfl (lv_at hl 1 rfl) ?_
  obtain ⟨hi, hm⟩ := it_a hm
  refine g_ald C hw aM_38 hi dX12_takeTermLabel_5 ?_
  refine lv_istore_n (lv' := [(2, .int (ar 38 a1.toNatClampNeg)), (0, .ref o), (1, .int a1)]) hx hb dX12_takeTermLabel_6 rfl hl (by decide) rfl (fun ls hl => ?_)
  refine lv_iload_n hx hb dX12_takeTermLabel_7 rfl (lv_at hl 0 rfl) ?_
  refine lv_if_ne (tgt := 15) hx hb dX12_takeTermLabel_8 (by decide) (fun hc => ?_) (fun hc => ?_)
  · have hm := it_f hc hm
    refine lv_aload_n hx hb dX12_takeTermLabel_15 rfl (lv_at hl 1 rfl) ?_
    refine g_get C hw gM_37 dX12_takeTermLabel_16 ?_
    refine lv_bipush (v := 9) hx hb dX12_takeTermLabel_19 cb_9 ?_
    refine lv_iload_n hx hb dX12_takeTermLabel_21 rfl (lv_at hl 2 rfl) ?_
    refine lv_imul hx hb dX12_takeTermLabel_22 ?_
    refine lv_iload_n hx hb dX12_takeTermLabel_23 rfl (lv_at hl 0 rfl) ?_
    refine lv_iadd hx hb dX12_takeTermLabel_24 ?_
    refine lv_iconst (v := 1) hx hb dX12_takeTermLabel_25 ci_1 ?_
    refine lv_isub hx hb dX12_takeTermLabel_26 ?_
    obtain ⟨hi, hm⟩ := it_a hm
    refine g_ald C hw aM_37 hi dX12_takeTermLabel_27 ?_
    exact wX12_takeTermLabel_J28 C _ _ _ _ _ _ _ _ hm _ _ _ (lv_sub hl [1, 2, 0] rfl) hw
  · have hm := it_t hc hm
    refine lv_iconst (v := (-1)) hx hb dX12_takeTermLabel_11 ci_m1 ?_
    refine lv_goto (tgt := 28) hx hb dX12_takeTermLabel_12 (by decide) ?_
    exact wX12_takeTermLabel_J28 C _ _ _ _ _ _ _ _ hm _ _ _ (lv_sub hl [1, 2, 0] rfl) hw
def mX12_readTerms_J329 (k16 : Int32 → Int32 → Int32 → mI → mA → Option (Int32 × mI × mA)) (l1 : Int32) (l2 : Int32) (l3 : Int32) (s0 : Int32) (iv : mI) (ar : mA) : Option (Int32 × mI × mA) := if s0 = 0 then k16 l1 l2 l3 iv ar else k16 (l1 + 1) l2 l3 iv ar
set_option maxRecDepth 100000 in
set_option maxHeartbeats 4000000 in
theorem wX12_readTerms_J329 {k16 : Int32 → Int32 → Int32 → mI → mA → Option (Int32 × mI × mA)} (C : mCx p s m args meth c RX12 cX12_readTerms 8 none D cI cJ A) (hk16 : ∀ (l1 : Int32) (l2 : Int32) (l3 : Int32) (iv : mI) (ar : mA) (rz : Int32) (ivz : mI) (arz : mA), k16 l1 l2 l3 iv ar = some (rz, ivz, arz) → ∀ (H : Heap) (locs : List Loc) (ls : Array Slot), lv_has ls 8 [(0, .ref o), (1, .int l1), (2, .int l2), (3, .int l3)] → inW D A s (wM cI o ad iv ar) H locs → W p l e (rmO 5 112) s m args below meth c H locs 0 0 (MQ below (ctQv D cI cJ (wM cI o ad ivz arz) A) args s 0 0 A) (F0 m 16 ls [])) : ∀ (l1 : Int32) (l2 : Int32) (l3 : Int32) (s0 : Int32) (iv : mI) (ar : mA) (rz : Int32) (ivz : mI) (arz : mA), mX12_readTerms_J329 k16 l1 l2 l3 s0 iv ar = some (rz, ivz, arz) → ∀ (H : Heap) (locs : List Loc) (ls : Array Slot), lv_has ls 8 [(0, .ref o), (1, .int l1), (2, .int l2), (3, .int l3)] → inW D A s (wM cI o ad iv ar) H locs → W p l e (rmO 5 112) s m args below meth c H locs 0 0 (MQ below (ctQv D cI cJ (wM cI o ad ivz arz) A) args s 0 0 A) (F0 m 329 ls [.int s0]) := by
  intro l1 l2 l3 s0 iv ar rz ivz arz hm H locs ls hl hw
  have hx := C.1.1
  have hb := C.1.2.1
  unfold mX12_readTerms_J329 at hm
  refine lv_istore (lv' := [(7, .int s0), (0, .ref o), (1, .int l1), (2, .int l2), (3, .int l3)]) hx hb dX12_readTerms_329 hl (by decide) rfl (fun ls hl => ?_)
  refine lv_iload hx hb dX12_readTerms_331 (lv_at hl 0 rfl) ?_
  refine lv_if_eq (tgt := 342) hx hb dX12_readTerms_333 (by decide) (fun hc => ?_) (fun hc => ?_)
  · have hm := it_t hc hm
    refine lv_iload_n hx hb dX12_readTerms_342 rfl (lv_at hl 2 rfl) ?_
    refine lv_istore_n (lv' := [(1, .int l1), (7, .int s0), (0, .ref o), (2, .int l2), (3, .int l3)]) hx hb dX12_readTerms_343 rfl hl (by decide) rfl (fun ls hl => ?_)
    refine lv_goto (tgt := 16) hx hb dX12_readTerms_344 (by decide) ?_
    exact hk16 _ _ _ _ _ _ _ _ hm _ _ _ (lv_sub hl [2, 0, 3, 4] rfl) hw
  · have hm := it_f hc hm
    refine lv_iload_n hx hb dX12_readTerms_336 rfl (lv_at hl 2 rfl) ?_
    refine lv_iconst (v := 1) hx hb dX12_readTerms_337 ci_1 ?_
    refine lv_iadd hx hb dX12_readTerms_338 ?_
    refine lv_goto (tgt := 343) hx hb dX12_readTerms_339 (by decide) ?_
    refine lv_istore_n (lv' := [(1, .int (l1 + 1)), (7, .int s0), (0, .ref o), (2, .int l2), (3, .int l3)]) hx hb dX12_readTerms_343 rfl hl (by decide) rfl (fun ls hl => ?_)
    refine lv_goto (tgt := 16) hx hb dX12_readTerms_344 (by decide) ?_
    exact hk16 _ _ _ _ _ _ _ _ hm _ _ _ (lv_sub hl [2, 0, 3, 4] rfl) hw
def mX12_readTerms_J271 (k16 : Int32 → Int32 → Int32 → mI → mA → Option (Int32 × mI × mA)) (l1 : Int32) (l2 : Int32) (l3 : Int32) (l6 : Int32) (iv : mI) (ar : mA) : Option (Int32 × mI × mA) := if l6 < 0 ∨ 200 ≤ l6.toNatClampNeg then none else if (ar 32 l6.toNatClampNeg) = 21 then mX12_readTerms_J329 k16 l1 l2 l3 1 iv ar else if l6 < 0 ∨ 200 ≤ l6.toNatClampNeg then none else if (ar 32 l6.toNatClampNeg) = 33 then mX12_readTerms_J329 k16 l1 l2 l3 1 iv ar else if l6 < 0 ∨ 200 ≤ l6.toNatClampNeg then none else if (ar 32 l6.toNatClampNeg) = 32 then if l6 < 0 ∨ 200 ≤ l6.toNatClampNeg then none else if l6 < 0 ∨ 200 ≤ l6.toNatClampNeg then none else if (ar 34 l6.toNatClampNeg) ≤ (ar 38 l6.toNatClampNeg) then mX12_readTerms_J329 k16 l1 l2 l3 0 iv ar else mX12_readTerms_J329 k16 l1 l2 l3 1 iv ar else mX12_readTerms_J329 k16 l1 l2 l3 0 iv ar
set_option maxRecDepth 100000 in
set_option maxHeartbeats 4000000 in
theorem wX12_readTerms_J271 {k16 : Int32 → Int32 → Int32 → mI → mA → Option (Int32 × mI × mA)} (C : mCx p s m args meth c RX12 cX12_readTerms 8 none D cI cJ A) (hk16 : ∀ (l1 : Int32) (l2 : Int32) (l3 : Int32) (iv : mI) (ar : mA) (rz : Int32) (ivz : mI) (arz : mA), k16 l1 l2 l3 iv ar = some (rz, ivz, arz) → ∀ (H : Heap) (locs : List Loc) (ls : Array Slot), lv_has ls 8 [(0, .ref o), (1, .int l1), (2, .int l2), (3, .int l3)] → inW D A s (wM cI o ad iv ar) H locs → W p l e (rmO 5 112) s m args below meth c H locs 0 0 (MQ below (ctQv D cI cJ (wM cI o ad ivz arz) A) args s 0 0 A) (F0 m 16 ls [])) : ∀ (l1 : Int32) (l2 : Int32) (l3 : Int32) (l6 : Int32) (iv : mI) (ar : mA) (rz : Int32) (ivz : mI) (arz : mA), mX12_readTerms_J271 k16 l1 l2 l3 l6 iv ar = some (rz, ivz, arz) → ∀ (H : Heap) (locs : List Loc) (ls : Array Slot), lv_has ls 8 [(0, .ref o), (1, .int l1), (2, .int l2), (3, .int l3), (6, .int l6)] → inW D A s (wM cI o ad iv ar) H locs → W p l e (rmO 5 112) s m args below meth c H locs 0 0 (MQ below (ctQv D cI cJ (wM cI o ad ivz arz) A) args s 0 0 A) (F0 m 271 ls []) := by
  intro l1 l2 l3 l6 iv ar rz ivz arz hm H locs ls hl hw
  have hx := C.1.1
  have hb := C.1.2.1
  unfold mX12_readTerms_J271 at hm
  refine lv_aload_n hx hb dX12_readTerms_271 rfl (lv_at hl 0 rfl) ?_
  refine g_get C hw gM_32 dX12_readTerms_272 ?_
  refine lv_iload hx hb dX12_readTerms_275 (lv_at hl 4 rfl) ?_
  obtain ⟨hi, hm⟩ := it_a hm
  refine g_ald C hw aM_32 hi dX12_readTerms_277 ?_
  refine lv_bipush (v := 21) hx hb dX12_readTerms_278 cb_21 ?_
  refine lv_icmp_eq (tgt := 324) hx hb dX12_readTerms_280 (by decide) (fun hc => ?_) (fun hc => ?_)
  · have hm := it_t hc hm
    refine lv_iconst (v := 1) hx hb dX12_readTerms_324 ci_1 ?_
    refine lv_goto (tgt := 329) hx hb dX12_readTerms_325 (by decide) ?_
    exact wX12_readTerms_J329 C hk16 _ _ _ _ _ _ _ _ _ hm _ _ _ (lv_sub hl [0, 1, 2, 3] rfl) hw
  · have hm := it_f hc hm
    refine lv_aload_n hx hb dX12_readTerms_283 rfl (lv_at hl 0 rfl) ?_
    refine g_get C hw gM_32 dX12_readTerms_284 ?_
    refine lv_iload hx hb dX12_readTerms_287 (lv_at hl 4 rfl) ?_
    obtain ⟨hi, hm⟩ := it_a hm
    refine g_ald C hw aM_32 hi dX12_readTerms_289 ?_
    refine lv_bipush (v := 33) hx hb dX12_readTerms_290 cb_33 ?_
    refine lv_icmp_eq (tgt := 324) hx hb dX12_readTerms_292 (by decide) (fun hc => ?_) (fun hc => ?_)
    · have hm := it_t hc hm
      refine lv_iconst (v := 1) hx hb dX12_readTerms_324 ci_1 ?_
      refine lv_goto (tgt := 329) hx hb dX12_readTerms_325 (by decide) ?_
      exact wX12_readTerms_J329 C hk16 _ _ _ _ _ _ _ _ _ hm _ _ _ (lv_sub hl [0, 1, 2, 3] rfl) hw
    · have hm := it_f hc hm
      refine lv_aload_n hx hb dX12_readTerms_295 rfl (lv_at hl 0 rfl) ?_
      refine g_get C hw gM_32 dX12_readTerms_296 ?_
      refine lv_iload hx hb dX12_readTerms_299 (lv_at hl 4 rfl) ?_
      obtain ⟨hi, hm⟩ := it_a hm
      refine g_ald C hw aM_32 hi dX12_readTerms_301 ?_
      refine lv_bipush (v := 32) hx hb dX12_readTerms_302 cb_32 ?_
      refine lv_icmp_ne (tgt := 328) hx hb dX12_readTerms_304 (by decide) (fun hc => ?_) (fun hc => ?_)
      · have hm := it_f hc hm
        refine lv_iconst (v := 0) hx hb dX12_readTerms_328 ci_0 ?_
        exact wX12_readTerms_J329 C hk16 _ _ _ _ _ _ _ _ _ hm _ _ _ (lv_sub hl [0, 1, 2, 3] rfl) hw
      · have hm := it_t hc hm
        refine lv_aload_n hx hb dX12_readTerms_307 rfl (lv_at hl 0 rfl) ?_
        refine g_get C hw gM_38 dX12_readTerms_308 ?_
        refine lv_iload hx hb dX12_readTerms_311 (lv_at hl 4 rfl) ?_
        obtain ⟨hi, hm⟩ := it_a hm
        refine g_ald C hw aM_38 hi dX12_readTerms_313 ?_
        refine lv_aload_n hx hb dX12_readTerms_314 rfl (lv_at hl 0 rfl) ?_
        refine g_get C hw gM_34 dX12_readTerms_315 ?_
        refine lv_iload hx hb dX12_readTerms_318 (lv_at hl 4 rfl) ?_
        obtain ⟨hi, hm⟩ := it_a hm
        refine g_ald C hw aM_34 hi dX12_readTerms_320 ?_
        refine lv_icmp_ge (tgt := 328) hx hb dX12_readTerms_321 (by decide) (fun hc => ?_) (fun hc => ?_)
        · have hm := it_t hc hm
          refine lv_iconst (v := 0) hx hb dX12_readTerms_328 ci_0 ?_
          exact wX12_readTerms_J329 C hk16 _ _ _ _ _ _ _ _ _ hm _ _ _ (lv_sub hl [0, 1, 2, 3] rfl) hw
        · have hm := it_f hc hm
          refine lv_iconst (v := 1) hx hb dX12_readTerms_324 ci_1 ?_
          refine lv_goto (tgt := 329) hx hb dX12_readTerms_325 (by decide) ?_
          exact wX12_readTerms_J329 C hk16 _ _ _ _ _ _ _ _ _ hm _ _ _ (lv_sub hl [0, 1, 2, 3] rfl) hw
def mX12_readTerms_J243 (k16 : Int32 → Int32 → Int32 → mI → mA → Option (Int32 × mI × mA)) (l3 : Int32) (l6 : Int32) (s0 : Int32) (iv : mI) (ar : mA) : Option (Int32 × mI × mA) := if ((iv 48) - 1) < 0 ∨ 220 ≤ ((iv 48) - 1).toNatClampNeg then none else ob (mX12_isLabelled l6 iv ar) (fun r259 iv259 ar259 => if r259 = 0 then mX12_readTerms_J271 k16 (ar 47 ((iv 48) - 1).toNatClampNeg) s0 l3 l6 iv259 ar259 else ob (mX12_takeTermLabel l6 iv259 ar259) (fun r268 iv268 ar268 => mX12_readTerms_J271 k16 (ar 47 ((iv 48) - 1).toNatClampNeg) s0 l3 l6 iv268 ar268))
set_option maxRecDepth 100000 in
set_option maxHeartbeats 4000000 in
theorem wX12_readTerms_J243 {k16 : Int32 → Int32 → Int32 → mI → mA → Option (Int32 × mI × mA)} (C : mCx p s m args meth c RX12 cX12_readTerms 8 none D cI cJ A) (hk16 : ∀ (l1 : Int32) (l2 : Int32) (l3 : Int32) (iv : mI) (ar : mA) (rz : Int32) (ivz : mI) (arz : mA), k16 l1 l2 l3 iv ar = some (rz, ivz, arz) → ∀ (H : Heap) (locs : List Loc) (ls : Array Slot), lv_has ls 8 [(0, .ref o), (1, .int l1), (2, .int l2), (3, .int l3)] → inW D A s (wM cI o ad iv ar) H locs → W p l e (rmO 5 112) s m args below meth c H locs 0 0 (MQ below (ctQv D cI cJ (wM cI o ad ivz arz) A) args s 0 0 A) (F0 m 16 ls [])) : ∀ (l3 : Int32) (l6 : Int32) (s0 : Int32) (iv : mI) (ar : mA) (rz : Int32) (ivz : mI) (arz : mA), mX12_readTerms_J243 k16 l3 l6 s0 iv ar = some (rz, ivz, arz) → ∀ (H : Heap) (locs : List Loc) (ls : Array Slot), lv_has ls 8 [(0, .ref o), (3, .int l3), (6, .int l6)] → inW D A s (wM cI o ad iv ar) H locs → W p l e (rmO 5 112) s m args below meth c H locs 0 0 (MQ below (ctQv D cI cJ (wM cI o ad ivz arz) A) args s 0 0 A) (F0 m 243 ls [.int s0]) := by
  intro l3 l6 s0 iv ar rz ivz arz hm H locs ls hl hw
  have hx := C.1.1
  have hb := C.1.2.1
  unfold mX12_readTerms_J243 at hm
  refine lv_istore_n (lv' := [(2, .int s0), (0, .ref o), (3, .int l3), (6, .int l6)]) hx hb dX12_readTerms_243 rfl hl (by decide) rfl (fun ls hl => ?_)
  refine lv_aload_n hx hb dX12_readTerms_244 rfl (lv_at hl 1 rfl) ?_
  refine g_get C hw gM_47 dX12_readTerms_245 ?_
  refine lv_aload_n hx hb dX12_readTerms_248 rfl (lv_at hl 1 rfl) ?_
  refine g_get C hw gM_48 dX12_readTerms_249 ?_
  refine lv_iconst (v := 1) hx hb dX12_readTerms_252 ci_1 ?_
  refine lv_isub hx hb dX12_readTerms_253 ?_
  obtain ⟨hi, hm⟩ := it_a hm
  refine g_ald C hw aM_47 hi dX12_readTerms_254 ?_
  refine lv_istore_n (lv' := [(1, .int (ar 47 ((iv 48) - 1).toNatClampNeg)), (2, .int s0), (0, .ref o), (3, .int l3), (6, .int l6)]) hx hb dX12_readTerms_255 rfl hl (by decide) rfl (fun ls hl => ?_)
  refine lv_aload_n hx hb dX12_readTerms_256 rfl (lv_at hl 2 rfl) ?_
  refine lv_iload hx hb dX12_readTerms_257 (lv_at hl 4 rfl) ?_
  obtain ⟨r259, iv259, ar259, hc259, hm⟩ := ob_some hm
  refine g_calli (As := [.int l6]) (rest := []) C hw (kX12_isLabelled hc259) mtX12_isLabelled lkX12_315 oM hl.1 rfl rfl (Nat.le_of_ble_eq_true rfl) ⟨Nat.le_of_ble_eq_true rfl, Nat.le_of_ble_eq_true rfl⟩ dX12_readTerms_259 ⟨Nat.zero_le _, Nat.zero_le _⟩ (fun H locs hw => ?_)
  refine lv_if_eq (tgt := 271) hx hb dX12_readTerms_262 (by decide) (fun hc => ?_) (fun hc => ?_)
  · have hm := it_t hc hm
    exact wX12_readTerms_J271 C hk16 _ _ _ _ _ _ _ _ _ hm _ _ _ (lv_sub hl [2, 0, 1, 3, 4] rfl) hw
  · have hm := it_f hc hm
    refine lv_aload_n hx hb dX12_readTerms_265 rfl (lv_at hl 2 rfl) ?_
    refine lv_iload hx hb dX12_readTerms_266 (lv_at hl 4 rfl) ?_
    obtain ⟨r268, iv268, ar268, hc268, hm⟩ := ob_some hm
    refine g_callv (As := [.int l6]) (rest := []) C hw (kX12_takeTermLabel hc268) mtX12_takeTermLabel lkX12_318 oM hl.1 rfl rfl (Nat.le_of_ble_eq_true rfl) ⟨Nat.le_of_ble_eq_true rfl, Nat.le_of_ble_eq_true rfl⟩ dX12_readTerms_268 ⟨Nat.zero_le _, Nat.zero_le _⟩ (fun H locs hw => ?_)
    exact wX12_readTerms_J271 C hk16 _ _ _ _ _ _ _ _ _ hm _ _ _ (lv_sub hl [2, 0, 1, 3, 4] rfl) hw
def mX12_readTerms_J191 (k16 : Int32 → Int32 → Int32 → mI → mA → Option (Int32 × mI × mA)) (l1 : Int32) (l2 : Int32) (l3 : Int32) (iv : mI) (ar : mA) : Option (Int32 × mI × mA) := if (iv 24) = 0 then if l3 = 0 then k16 l1 l2 l3 iv ar else if ((iv 48) - 1) < 0 ∨ 220 ≤ ((iv 48) - 1).toNatClampNeg then none else if (ar 46 ((iv 48) - 1).toNatClampNeg) < 0 ∨ 200 ≤ (ar 46 ((iv 48) - 1).toNatClampNeg).toNatClampNeg then none else if (ar 46 ((iv 48) - 1).toNatClampNeg) < 0 ∨ 200 ≤ (ar 46 ((iv 48) - 1).toNatClampNeg).toNatClampNeg then none else if (ar 46 ((iv 48) - 1).toNatClampNeg) < 0 ∨ 200 ≤ (ar 46 ((iv 48) - 1).toNatClampNeg).toNatClampNeg then none else if ((au ar 49 (ar 46 ((iv 48) - 1).toNatClampNeg).toNatClampNeg ((ar 49 (ar 46 ((iv 48) - 1).toNatClampNeg).toNatClampNeg) - 1)) 32 (ar 46 ((iv 48) - 1).toNatClampNeg).toNatClampNeg) = 33 then mX12_readTerms_J243 k16 l3 (ar 46 ((iv 48) - 1).toNatClampNeg) 1 iv (au ar 49 (ar 46 ((iv 48) - 1).toNatClampNeg).toNatClampNeg ((ar 49 (ar 46 ((iv 48) - 1).toNatClampNeg).toNatClampNeg) - 1)) else mX12_readTerms_J243 k16 l3 (ar 46 ((iv 48) - 1).toNatClampNeg) 0 iv (au ar 49 (ar 46 ((iv 48) - 1).toNatClampNeg).toNatClampNeg ((ar 49 (ar 46 ((iv 48) - 1).toNatClampNeg).toNatClampNeg) - 1)) else k16 l1 l2 l3 iv ar
set_option maxRecDepth 100000 in
set_option maxHeartbeats 4000000 in
theorem wX12_readTerms_J191 {k16 : Int32 → Int32 → Int32 → mI → mA → Option (Int32 × mI × mA)} (C : mCx p s m args meth c RX12 cX12_readTerms 8 none D cI cJ A) (hk16 : ∀ (l1 : Int32) (l2 : Int32) (l3 : Int32) (iv : mI) (ar : mA) (rz : Int32) (ivz : mI) (arz : mA), k16 l1 l2 l3 iv ar = some (rz, ivz, arz) → ∀ (H : Heap) (locs : List Loc) (ls : Array Slot), lv_has ls 8 [(0, .ref o), (1, .int l1), (2, .int l2), (3, .int l3)] → inW D A s (wM cI o ad iv ar) H locs → W p l e (rmO 5 112) s m args below meth c H locs 0 0 (MQ below (ctQv D cI cJ (wM cI o ad ivz arz) A) args s 0 0 A) (F0 m 16 ls [])) : ∀ (l1 : Int32) (l2 : Int32) (l3 : Int32) (iv : mI) (ar : mA) (rz : Int32) (ivz : mI) (arz : mA), mX12_readTerms_J191 k16 l1 l2 l3 iv ar = some (rz, ivz, arz) → ∀ (H : Heap) (locs : List Loc) (ls : Array Slot), lv_has ls 8 [(0, .ref o), (1, .int l1), (2, .int l2), (3, .int l3)] → inW D A s (wM cI o ad iv ar) H locs → W p l e (rmO 5 112) s m args below meth c H locs 0 0 (MQ below (ctQv D cI cJ (wM cI o ad ivz arz) A) args s 0 0 A) (F0 m 191 ls []) := by
  intro l1 l2 l3 iv ar rz ivz arz hm H locs ls hl hw
  have hx := C.1.1
  have hb := C.1.2.1
  unfold mX12_readTerms_J191 at hm
  refine lv_aload_n hx hb dX12_readTerms_191 rfl (lv_at hl 0 rfl) ?_
  refine g_get C hw gM_24 dX12_readTerms_192 ?_
  refine lv_if_ne (tgt := 344) hx hb dX12_readTerms_195 (by decide) (fun hc => ?_) (fun hc => ?_)
  · have hm := it_f hc hm
    refine lv_goto (tgt := 16) hx hb dX12_readTerms_344 (by decide) ?_
    exact hk16 _ _ _ _ _ _ _ _ hm _ _ _ (lv_sub hl [0, 1, 2, 3] rfl) hw
  · have hm := it_t hc hm
    refine lv_iload_n hx hb dX12_readTerms_198 rfl (lv_at hl 3 rfl) ?_
    refine lv_if_eq (tgt := 344) hx hb dX12_readTerms_199 (by decide) (fun hc => ?_) (fun hc => ?_)
    · have hm := it_t hc hm
      refine lv_goto (tgt := 16) hx hb dX12_readTerms_344 (by decide) ?_
      exact hk16 _ _ _ _ _ _ _ _ hm _ _ _ (lv_sub hl [0, 1, 2, 3] rfl) hw
    · have hm := it_f hc hm
      refine lv_aload_n hx hb dX12_readTerms_202 rfl (lv_at hl 0 rfl) ?_
      refine g_get C hw gM_46 dX12_readTerms_203 ?_
      refine lv_aload_n hx hb dX12_readTerms_206 rfl (lv_at hl 0 rfl) ?_
      refine g_get C hw gM_48 dX12_readTerms_207 ?_
      refine lv_iconst (v := 1) hx hb dX12_readTerms_210 ci_1 ?_
      refine lv_isub hx hb dX12_readTerms_211 ?_
      obtain ⟨hi, hm⟩ := it_a hm
      refine g_ald C hw aM_46 hi dX12_readTerms_212 ?_
      refine lv_istore (lv' := [(6, .int (ar 46 ((iv 48) - 1).toNatClampNeg)), (0, .ref o), (1, .int l1), (2, .int l2), (3, .int l3)]) hx hb dX12_readTerms_213 hl (by decide) rfl (fun ls hl => ?_)
      refine lv_aload_n hx hb dX12_readTerms_215 rfl (lv_at hl 1 rfl) ?_
      refine g_get C hw gM_49 dX12_readTerms_216 ?_
      refine lv_iload hx hb dX12_readTerms_219 (lv_at hl 0 rfl) ?_
      refine lv_dup2_11 hx hb dX12_readTerms_221 rfl rfl ?_
      obtain ⟨hi, hm⟩ := it_a hm
      refine g_ald C hw aM_49 hi dX12_readTerms_222 ?_
      refine lv_iconst (v := 1) hx hb dX12_readTerms_223 ci_1 ?_
      refine lv_isub hx hb dX12_readTerms_224 ?_
      obtain ⟨hi, hm⟩ := it_a hm
      refine g_ast C hw sM_49 hi dX12_readTerms_225 (fun H locs hw => ?_)
      refine lv_aload_n hx hb dX12_readTerms_226 rfl (lv_at hl 1 rfl) ?_
      refine g_get C hw gM_32 dX12_readTerms_227 ?_
      refine lv_iload hx hb dX12_readTerms_230 (lv_at hl 0 rfl) ?_
      obtain ⟨hi, hm⟩ := it_a hm
      refine g_ald C hw aM_32 hi dX12_readTerms_232 ?_
      refine lv_bipush (v := 33) hx hb dX12_readTerms_233 cb_33 ?_
      refine lv_icmp_ne (tgt := 242) hx hb dX12_readTerms_235 (by decide) (fun hc => ?_) (fun hc => ?_)
      · have hm := it_f hc hm
        refine lv_iconst (v := 0) hx hb dX12_readTerms_242 ci_0 ?_
        exact wX12_readTerms_J243 C hk16 _ _ _ _ _ _ _ _ hm _ _ _ (lv_sub hl [1, 4, 0] rfl) hw
      · have hm := it_t hc hm
        refine lv_iconst (v := 1) hx hb dX12_readTerms_238 ci_1 ?_
        refine lv_goto (tgt := 243) hx hb dX12_readTerms_239 (by decide) ?_
        exact wX12_readTerms_J243 C hk16 _ _ _ _ _ _ _ _ hm _ _ _ (lv_sub hl [1, 4, 0] rfl) hw
def mX12_readTerms_J178 (k16 : Int32 → Int32 → Int32 → mI → mA → Option (Int32 × mI × mA)) (l1 : Int32) (l2 : Int32) (iv : mI) (ar : mA) : Option (Int32 × mI × mA) := if (iv 48) ≤ 0 then mX12_readTerms_J191 k16 l1 l2 0 iv ar else mX12_readTerms_J191 k16 l1 l2 1 iv ar
set_option maxRecDepth 100000 in
set_option maxHeartbeats 4000000 in
theorem wX12_readTerms_J178 {k16 : Int32 → Int32 → Int32 → mI → mA → Option (Int32 × mI × mA)} (C : mCx p s m args meth c RX12 cX12_readTerms 8 none D cI cJ A) (hk16 : ∀ (l1 : Int32) (l2 : Int32) (l3 : Int32) (iv : mI) (ar : mA) (rz : Int32) (ivz : mI) (arz : mA), k16 l1 l2 l3 iv ar = some (rz, ivz, arz) → ∀ (H : Heap) (locs : List Loc) (ls : Array Slot), lv_has ls 8 [(0, .ref o), (1, .int l1), (2, .int l2), (3, .int l3)] → inW D A s (wM cI o ad iv ar) H locs → W p l e (rmO 5 112) s m args below meth c H locs 0 0 (MQ below (ctQv D cI cJ (wM cI o ad ivz arz) A) args s 0 0 A) (F0 m 16 ls [])) : ∀ (l1 : Int32) (l2 : Int32) (iv : mI) (ar : mA) (rz : Int32) (ivz : mI) (arz : mA), mX12_readTerms_J178 k16 l1 l2 iv ar = some (rz, ivz, arz) → ∀ (H : Heap) (locs : List Loc) (ls : Array Slot), lv_has ls 8 [(0, .ref o), (1, .int l1), (2, .int l2)] → inW D A s (wM cI o ad iv ar) H locs → W p l e (rmO 5 112) s m args below meth c H locs 0 0 (MQ below (ctQv D cI cJ (wM cI o ad ivz arz) A) args s 0 0 A) (F0 m 178 ls []) := by
  intro l1 l2 iv ar rz ivz arz hm H locs ls hl hw
  have hx := C.1.1
  have hb := C.1.2.1
  unfold mX12_readTerms_J178 at hm
  refine lv_aload_n hx hb dX12_readTerms_178 rfl (lv_at hl 0 rfl) ?_
  refine g_get C hw gM_48 dX12_readTerms_179 ?_
  refine lv_if_le (tgt := 189) hx hb dX12_readTerms_182 (by decide) (fun hc => ?_) (fun hc => ?_)
  · have hm := it_t hc hm
    refine lv_iconst (v := 0) hx hb dX12_readTerms_189 ci_0 ?_
    refine lv_istore_n (lv' := [(3, .int 0), (0, .ref o), (1, .int l1), (2, .int l2)]) hx hb dX12_readTerms_190 rfl hl (by decide) rfl (fun ls hl => ?_)
    exact wX12_readTerms_J191 C hk16 _ _ _ _ _ _ _ _ hm _ _ _ (lv_sub hl [1, 2, 3, 0] rfl) hw
  · have hm := it_f hc hm
    refine lv_iconst (v := 1) hx hb dX12_readTerms_185 ci_1 ?_
    refine lv_goto (tgt := 190) hx hb dX12_readTerms_186 (by decide) ?_
    refine lv_istore_n (lv' := [(3, .int 1), (0, .ref o), (1, .int l1), (2, .int l2)]) hx hb dX12_readTerms_190 rfl hl (by decide) rfl (fun ls hl => ?_)
    exact wX12_readTerms_J191 C hk16 _ _ _ _ _ _ _ _ hm _ _ _ (lv_sub hl [1, 2, 3, 0] rfl) hw
def mX12_readTerms_L139 (k16 : Int32 → Int32 → Int32 → mI → mA → Option (Int32 × mI × mA)) : Nat → Int32 → Int32 → mI → mA → Option (Int32 × mI × mA)
  | 0, _, _, _, _ => none
  | n + 1, l1, l2, iv, ar => if (iv 48) ≤ 0 then mX12_readTerms_J178 k16 l1 l2 iv ar else if ((iv 48) - 1) < 0 ∨ 220 ≤ ((iv 48) - 1).toNatClampNeg then none else if (ar 46 ((iv 48) - 1).toNatClampNeg) < 0 ∨ 200 ≤ (ar 46 ((iv 48) - 1).toNatClampNeg).toNatClampNeg then none else if (ar 49 (ar 46 ((iv 48) - 1).toNatClampNeg).toNatClampNeg) = 0 then mX12_readTerms_L139 k16 n l1 l2 (va_up iv 48 ((iv 48) - 1)) ar else mX12_readTerms_J178 k16 l1 l2 iv ar
set_option maxRecDepth 100000 in
set_option maxHeartbeats 4000000 in
theorem wX12_readTerms_L139 {k16 : Int32 → Int32 → Int32 → mI → mA → Option (Int32 × mI × mA)} (C : mCx p s m args meth c RX12 cX12_readTerms 8 none D cI cJ A) (hk16 : ∀ (l1 : Int32) (l2 : Int32) (l3 : Int32) (iv : mI) (ar : mA) (rz : Int32) (ivz : mI) (arz : mA), k16 l1 l2 l3 iv ar = some (rz, ivz, arz) → ∀ (H : Heap) (locs : List Loc) (ls : Array Slot), lv_has ls 8 [(0, .ref o), (1, .int l1), (2, .int l2), (3, .int l3)] → inW D A s (wM cI o ad iv ar) H locs → W p l e (rmO 5 112) s m args below meth c H locs 0 0 (MQ below (ctQv D cI cJ (wM cI o ad ivz arz) A) args s 0 0 A) (F0 m 16 ls [])) (n : Nat) : ∀ (l1 : Int32) (l2 : Int32) (iv : mI) (ar : mA) (rz : Int32) (ivz : mI) (arz : mA), mX12_readTerms_L139 k16 n l1 l2 iv ar = some (rz, ivz, arz) → ∀ (H : Heap) (locs : List Loc) (ls : Array Slot), lv_has ls 8 [(0, .ref o), (1, .int l1), (2, .int l2)] → inW D A s (wM cI o ad iv ar) H locs → W p l e (rmO 5 112) s m args below meth c H locs 0 0 (MQ below (ctQv D cI cJ (wM cI o ad ivz arz) A) args s 0 0 A) (F0 m 139 ls []) := by
  induction n with
  | zero =>
    intro l1 l2 iv ar rz ivz arz hm H locs ls hl hw
    have hm : (none : Option (Int32 × mI × mA)) = some _ := hm
    cases hm
  | succ n ih =>
    intro l1 l2 iv ar rz ivz arz hm H locs ls hl hw
    have hx := C.1.1
    have hb := C.1.2.1
    unfold mX12_readTerms_L139 at hm
    refine lv_aload_n hx hb dX12_readTerms_139 rfl (lv_at hl 0 rfl) ?_
    refine g_get C hw gM_48 dX12_readTerms_140 ?_
    refine lv_if_le (tgt := 178) hx hb dX12_readTerms_143 (by decide) (fun hc => ?_) (fun hc => ?_)
    · have hm := it_t hc hm
      exact wX12_readTerms_J178 C hk16 _ _ _ _ _ _ _ hm _ _ _ (lv_sub hl [0, 1, 2] rfl) hw
    · have hm := it_f hc hm
      refine lv_aload_n hx hb dX12_readTerms_146 rfl (lv_at hl 0 rfl) ?_
      refine g_get C hw gM_49 dX12_readTerms_147 ?_
      refine lv_aload_n hx hb dX12_readTerms_150 rfl (lv_at hl 0 rfl) ?_
      refine g_get C hw gM_46 dX12_readTerms_151 ?_
      refine lv_aload_n hx hb dX12_readTerms_154 rfl (lv_at hl 0 rfl) ?_
      refine g_get C hw gM_48 dX12_readTerms_155 ?_
      refine lv_iconst (v := 1) hx hb dX12_readTerms_158 ci_1 ?_
      refine lv_isub hx hb dX12_readTerms_159 ?_
      obtain ⟨hi, hm⟩ := it_a hm
      refine g_ald C hw aM_46 hi dX12_readTerms_160 ?_
      obtain ⟨hi, hm⟩ := it_a hm
      refine g_ald C hw aM_49 hi dX12_readTerms_161 ?_
      refine lv_if_ne (tgt := 178) hx hb dX12_readTerms_162 (by decide) (fun hc => ?_) (fun hc => ?_)
      · have hm := it_f hc hm
        exact wX12_readTerms_J178 C hk16 _ _ _ _ _ _ _ hm _ _ _ (lv_sub hl [0, 1, 2] rfl) hw
      · have hm := it_t hc hm
        refine lv_aload_n hx hb dX12_readTerms_165 rfl (lv_at hl 0 rfl) ?_
        refine lv_dup hx hb dX12_readTerms_166 rfl ?_
        refine g_get C hw gM_48 dX12_readTerms_167 ?_
        refine lv_iconst (v := 1) hx hb dX12_readTerms_170 ci_1 ?_
        refine lv_isub hx hb dX12_readTerms_171 ?_
        refine g_put C hw pM_48 dX12_readTerms_172 (fun H locs hw => ?_)
        refine lv_goto (tgt := 139) hx hb dX12_readTerms_175 (by decide) ?_
        exact ih _ _ _ _ _ _ _ hm _ _ _ (lv_sub hl [0, 1, 2] rfl) hw
def mX12_readTerms_J99 (k16 : Int32 → Int32 → Int32 → mI → mA → Option (Int32 × mI × mA)) (l1 : Int32) (l2 : Int32) (l4 : Int32) (l5 : Int32) (iv : mI) (ar : mA) : Option (Int32 × mI × mA) := if l4 < 0 ∨ 200 ≤ l4.toNatClampNeg then none else if (iv 48) < 0 ∨ 220 ≤ (iv 48).toNatClampNeg then none else if (iv 48) < 0 ∨ 220 ≤ (iv 48).toNatClampNeg then none else mX12_readTerms_L139 k16 bigF l1 l2 (va_up iv 48 ((iv 48) + 1)) (au (au (au ar 49 l4.toNatClampNeg l5) 46 (iv 48).toNatClampNeg l4) 47 (iv 48).toNatClampNeg l1)
set_option maxRecDepth 100000 in
set_option maxHeartbeats 4000000 in
theorem wX12_readTerms_J99 {k16 : Int32 → Int32 → Int32 → mI → mA → Option (Int32 × mI × mA)} (C : mCx p s m args meth c RX12 cX12_readTerms 8 none D cI cJ A) (hk16 : ∀ (l1 : Int32) (l2 : Int32) (l3 : Int32) (iv : mI) (ar : mA) (rz : Int32) (ivz : mI) (arz : mA), k16 l1 l2 l3 iv ar = some (rz, ivz, arz) → ∀ (H : Heap) (locs : List Loc) (ls : Array Slot), lv_has ls 8 [(0, .ref o), (1, .int l1), (2, .int l2), (3, .int l3)] → inW D A s (wM cI o ad iv ar) H locs → W p l e (rmO 5 112) s m args below meth c H locs 0 0 (MQ below (ctQv D cI cJ (wM cI o ad ivz arz) A) args s 0 0 A) (F0 m 16 ls [])) : ∀ (l1 : Int32) (l2 : Int32) (l4 : Int32) (l5 : Int32) (iv : mI) (ar : mA) (rz : Int32) (ivz : mI) (arz : mA), mX12_readTerms_J99 k16 l1 l2 l4 l5 iv ar = some (rz, ivz, arz) → ∀ (H : Heap) (locs : List Loc) (ls : Array Slot), lv_has ls 8 [(0, .ref o), (1, .int l1), (2, .int l2), (4, .int l4), (5, .int l5)] → inW D A s (wM cI o ad iv ar) H locs → W p l e (rmO 5 112) s m args below meth c H locs 0 0 (MQ below (ctQv D cI cJ (wM cI o ad ivz arz) A) args s 0 0 A) (F0 m 99 ls []) := by
  intro l1 l2 l4 l5 iv ar rz ivz arz hm H locs ls hl hw
  have hx := C.1.1
  have hb := C.1.2.1
  unfold mX12_readTerms_J99 at hm
  refine lv_aload_n hx hb dX12_readTerms_99 rfl (lv_at hl 0 rfl) ?_
  refine g_get C hw gM_49 dX12_readTerms_100 ?_
  refine lv_iload hx hb dX12_readTerms_103 (lv_at hl 3 rfl) ?_
  refine lv_iload hx hb dX12_readTerms_105 (lv_at hl 4 rfl) ?_
  obtain ⟨hi, hm⟩ := it_a hm
  refine g_ast C hw sM_49 hi dX12_readTerms_107 (fun H locs hw => ?_)
  refine lv_aload_n hx hb dX12_readTerms_108 rfl (lv_at hl 0 rfl) ?_
  refine g_get C hw gM_46 dX12_readTerms_109 ?_
  refine lv_aload_n hx hb dX12_readTerms_112 rfl (lv_at hl 0 rfl) ?_
  refine g_get C hw gM_48 dX12_readTerms_113 ?_
  refine lv_iload hx hb dX12_readTerms_116 (lv_at hl 3 rfl) ?_
  obtain ⟨hi, hm⟩ := it_a hm
  refine g_ast C hw sM_46 hi dX12_readTerms_118 (fun H locs hw => ?_)
  refine lv_aload_n hx hb dX12_readTerms_119 rfl (lv_at hl 0 rfl) ?_
  refine g_get C hw gM_47 dX12_readTerms_120 ?_
  refine lv_aload_n hx hb dX12_readTerms_123 rfl (lv_at hl 0 rfl) ?_
  refine g_get C hw gM_48 dX12_readTerms_124 ?_
  refine lv_iload_n hx hb dX12_readTerms_127 rfl (lv_at hl 1 rfl) ?_
  obtain ⟨hi, hm⟩ := it_a hm
  refine g_ast C hw sM_47 hi dX12_readTerms_128 (fun H locs hw => ?_)
  refine lv_aload_n hx hb dX12_readTerms_129 rfl (lv_at hl 0 rfl) ?_
  refine lv_dup hx hb dX12_readTerms_130 rfl ?_
  refine g_get C hw gM_48 dX12_readTerms_131 ?_
  refine lv_iconst (v := 1) hx hb dX12_readTerms_134 ci_1 ?_
  refine lv_iadd hx hb dX12_readTerms_135 ?_
  refine g_put C hw pM_48 dX12_readTerms_136 (fun H locs hw => ?_)
  exact wX12_readTerms_L139 C hk16 bigF _ _ _ _ _ _ _ hm _ _ _ (lv_sub hl [0, 1, 2] rfl) hw
def mX12_readTerms_L16 : Nat → Int32 → Int32 → Int32 → mI → mA → Option (Int32 × mI × mA)
  | 0, _, _, _, _, _ => none
  | n + 1, l1, l2, l3, iv, ar => if l3 = 0 then some (0, iv, ar) else if (iv 24) = 0 then ob (mX12_readTermWord l1 l2 iv ar) (fun r36 iv36 ar36 => if (iv36 24) = 0 then if (iv36 48) ≤ 0 then mX12_readTerms_J99 (mX12_readTerms_L16 n) l1 l2 (iv 31) r36 iv36 ar36 else if ((iv36 48) - 1) < 0 ∨ 220 ≤ ((iv36 48) - 1).toNatClampNeg then none else if (ar36 46 ((iv36 48) - 1).toNatClampNeg) < 0 ∨ 200 ≤ (ar36 46 ((iv36 48) - 1).toNatClampNeg).toNatClampNeg then none else if ((9 * (ar36 46 ((iv36 48) - 1).toNatClampNeg)) + (ar36 38 (ar36 46 ((iv36 48) - 1).toNatClampNeg).toNatClampNeg)) < 0 ∨ 1800 ≤ ((9 * (ar36 46 ((iv36 48) - 1).toNatClampNeg)) + (ar36 38 (ar36 46 ((iv36 48) - 1).toNatClampNeg).toNatClampNeg)).toNatClampNeg then none else if (ar36 46 ((iv36 48) - 1).toNatClampNeg) < 0 ∨ 200 ≤ (ar36 46 ((iv36 48) - 1).toNatClampNeg).toNatClampNeg then none else if (ar36 46 ((iv36 48) - 1).toNatClampNeg) < 0 ∨ 200 ≤ (ar36 46 ((iv36 48) - 1).toNatClampNeg).toNatClampNeg then none else mX12_readTerms_J99 (mX12_readTerms_L16 n) l1 l2 (iv 31) r36 iv36 (au (au ar36 36 ((9 * (ar36 46 ((iv36 48) - 1).toNatClampNeg)) + (ar36 38 (ar36 46 ((iv36 48) - 1).toNatClampNeg).toNatClampNeg)).toNatClampNeg (iv 31)) 38 (ar36 46 ((iv36 48) - 1).toNatClampNeg).toNatClampNeg (((au ar36 36 ((9 * (ar36 46 ((iv36 48) - 1).toNatClampNeg)) + (ar36 38 (ar36 46 ((iv36 48) - 1).toNatClampNeg).toNatClampNeg)).toNatClampNeg (iv 31)) 38 (ar36 46 ((iv36 48) - 1).toNatClampNeg).toNatClampNeg) + 1)) else mX12_readTerms_J191 (mX12_readTerms_L16 n) l1 l2 l3 iv36 ar36) else some (0, iv, ar)
set_option maxRecDepth 100000 in
set_option maxHeartbeats 4000000 in
theorem wX12_readTerms_L16 (C : mCx p s m args meth c RX12 cX12_readTerms 8 none D cI cJ A) (n : Nat) : ∀ (l1 : Int32) (l2 : Int32) (l3 : Int32) (iv : mI) (ar : mA) (rz : Int32) (ivz : mI) (arz : mA), mX12_readTerms_L16 n l1 l2 l3 iv ar = some (rz, ivz, arz) → ∀ (H : Heap) (locs : List Loc) (ls : Array Slot), lv_has ls 8 [(0, .ref o), (1, .int l1), (2, .int l2), (3, .int l3)] → inW D A s (wM cI o ad iv ar) H locs → W p l e (rmO 5 112) s m args below meth c H locs 0 0 (MQ below (ctQv D cI cJ (wM cI o ad ivz arz) A) args s 0 0 A) (F0 m 16 ls []) := by
  induction n with
  | zero =>
    intro l1 l2 l3 iv ar rz ivz arz hm H locs ls hl hw
    have hm : (none : Option (Int32 × mI × mA)) = some _ := hm
    cases hm
  | succ n ih =>
    intro l1 l2 l3 iv ar rz ivz arz hm H locs ls hl hw
    have hx := C.1.1
    have hb := C.1.2.1
    unfold mX12_readTerms_L16 at hm
    refine lv_iload_n hx hb dX12_readTerms_16 rfl (lv_at hl 3 rfl) ?_
    refine lv_if_eq (tgt := 347) hx hb dX12_readTerms_17 (by decide) (fun hc => ?_) (fun hc => ?_)
    · have hm := it_t hc hm
      cases hm
      exact g_vret C hw dX12_readTerms_347
    · have hm := it_f hc hm
      refine lv_aload_n hx hb dX12_readTerms_20 rfl (lv_at hl 0 rfl) ?_
      refine g_get C hw gM_24 dX12_readTerms_21 ?_
      refine lv_if_ne (tgt := 347) hx hb dX12_readTerms_24 (by decide) (fun hc => ?_) (fun hc => ?_)
      · have hm := it_f hc hm
        cases hm
        exact g_vret C hw dX12_readTerms_347
      · have hm := it_t hc hm
        refine lv_aload_n hx hb dX12_readTerms_27 rfl (lv_at hl 0 rfl) ?_
        refine g_get C hw gM_31 dX12_readTerms_28 ?_
        refine lv_istore (lv' := [(4, .int (iv 31)), (0, .ref o), (1, .int l1), (2, .int l2), (3, .int l3)]) hx hb dX12_readTerms_31 hl (by decide) rfl (fun ls hl => ?_)
        refine lv_aload_n hx hb dX12_readTerms_33 rfl (lv_at hl 1 rfl) ?_
        refine lv_iload_n hx hb dX12_readTerms_34 rfl (lv_at hl 2 rfl) ?_
        refine lv_iload_n hx hb dX12_readTerms_35 rfl (lv_at hl 3 rfl) ?_
        obtain ⟨r36, iv36, ar36, hc36, hm⟩ := ob_some hm
        refine g_calli (As := [.int l1, .int l2]) (rest := []) C hw (kX12_readTermWord hc36) mtX12_readTermWord lkX12_311 oM hl.1 rfl rfl (Nat.le_of_ble_eq_true rfl) ⟨Nat.le_of_ble_eq_true rfl, Nat.le_of_ble_eq_true rfl⟩ dX12_readTerms_36 ⟨Nat.zero_le _, Nat.zero_le _⟩ (fun H locs hw => ?_)
        refine lv_istore (lv' := [(5, .int r36), (4, .int (iv 31)), (0, .ref o), (1, .int l1), (2, .int l2), (3, .int l3)]) hx hb dX12_readTerms_39 hl (by decide) rfl (fun ls hl => ?_)
        refine lv_aload_n hx hb dX12_readTerms_41 rfl (lv_at hl 2 rfl) ?_
        refine g_get C hw gM_24 dX12_readTerms_42 ?_
        refine lv_if_ne (tgt := 191) hx hb dX12_readTerms_45 (by decide) (fun hc => ?_) (fun hc => ?_)
        · have hm := it_f hc hm
          exact wX12_readTerms_J191 C ih _ _ _ _ _ _ _ _ hm _ _ _ (lv_sub hl [2, 3, 4, 5] rfl) hw
        · have hm := it_t hc hm
          refine lv_aload_n hx hb dX12_readTerms_48 rfl (lv_at hl 2 rfl) ?_
          refine g_get C hw gM_48 dX12_readTerms_49 ?_
          refine lv_if_le (tgt := 99) hx hb dX12_readTerms_52 (by decide) (fun hc => ?_) (fun hc => ?_)
          · have hm := it_t hc hm
            exact wX12_readTerms_J99 C ih _ _ _ _ _ _ _ _ _ hm _ _ _ (lv_sub hl [2, 3, 4, 1, 0] rfl) hw
          · have hm := it_f hc hm
            refine lv_aload_n hx hb dX12_readTerms_55 rfl (lv_at hl 2 rfl) ?_
            refine g_get C hw gM_46 dX12_readTerms_56 ?_
            refine lv_aload_n hx hb dX12_readTerms_59 rfl (lv_at hl 2 rfl) ?_
            refine g_get C hw gM_48 dX12_readTerms_60 ?_
            refine lv_iconst (v := 1) hx hb dX12_readTerms_63 ci_1 ?_
            refine lv_isub hx hb dX12_readTerms_64 ?_
            obtain ⟨hi, hm⟩ := it_a hm
            refine g_ald C hw aM_46 hi dX12_readTerms_65 ?_
            refine lv_istore (lv' := [(6, .int (ar36 46 ((iv36 48) - 1).toNatClampNeg)), (5, .int r36), (4, .int (iv 31)), (0, .ref o), (1, .int l1), (2, .int l2), (3, .int l3)]) hx hb dX12_readTerms_66 hl (by decide) rfl (fun ls hl => ?_)
            refine lv_aload_n hx hb dX12_readTerms_68 rfl (lv_at hl 3 rfl) ?_
            refine g_get C hw gM_36 dX12_readTerms_69 ?_
            refine lv_bipush (v := 9) hx hb dX12_readTerms_72 cb_9 ?_
            refine lv_iload hx hb dX12_readTerms_74 (lv_at hl 0 rfl) ?_
            refine lv_imul hx hb dX12_readTerms_76 ?_
            refine lv_aload_n hx hb dX12_readTerms_77 rfl (lv_at hl 3 rfl) ?_
            refine g_get C hw gM_38 dX12_readTerms_78 ?_
            refine lv_iload hx hb dX12_readTerms_81 (lv_at hl 0 rfl) ?_
            obtain ⟨hi, hm⟩ := it_a hm
            refine g_ald C hw aM_38 hi dX12_readTerms_83 ?_
            refine lv_iadd hx hb dX12_readTerms_84 ?_
            refine lv_iload hx hb dX12_readTerms_85 (lv_at hl 2 rfl) ?_
            obtain ⟨hi, hm⟩ := it_a hm
            refine g_ast C hw sM_36 hi dX12_readTerms_87 (fun H locs hw => ?_)
            refine lv_aload_n hx hb dX12_readTerms_88 rfl (lv_at hl 3 rfl) ?_
            refine g_get C hw gM_38 dX12_readTerms_89 ?_
            refine lv_iload hx hb dX12_readTerms_92 (lv_at hl 0 rfl) ?_
            refine lv_dup2_11 hx hb dX12_readTerms_94 rfl rfl ?_
            obtain ⟨hi, hm⟩ := it_a hm
            refine g_ald C hw aM_38 hi dX12_readTerms_95 ?_
            refine lv_iconst (v := 1) hx hb dX12_readTerms_96 ci_1 ?_
            refine lv_iadd hx hb dX12_readTerms_97 ?_
            obtain ⟨hi, hm⟩ := it_a hm
            refine g_ast C hw sM_38 hi dX12_readTerms_98 (fun H locs hw => ?_)
            exact wX12_readTerms_J99 C ih _ _ _ _ _ _ _ _ _ hm _ _ _ (lv_sub hl [3, 4, 5, 2, 1] rfl) hw
def mX12_readTerms  (iv : mI) (ar : mA) : Option (Int32 × mI × mA) := mX12_readTerms_L16 bigF 0 0 1 (va_up (va_up iv 31 0) 48 0) ar
set_option maxRecDepth 100000 in
set_option maxHeartbeats 4000000 in
theorem kX12_readTerms {iv ivz : mI} {ar arz : mA} {rz : Int32} (hm : mX12_readTerms iv ar = some (rz, ivz, arz)) : CtV l D cI cJ yX12_readTerms cX12_readTerms 8 5 112 [.ref o] (wM cI o ad iv ar) (wM cI o ad ivz arz) := by
  intro sz
  refine ct_of (by decide) (Nat.le_of_ble_eq_true rfl) ?_
  intro p e s m args below meth c C hw ls hl
  have hl : lv_has ls 8 [(0, .ref o)] := hl
  have hx := C.1.1
  have hb := C.1.2.1
  unfold mX12_readTerms at hm
  refine lv_aload_n hx hb dX12_readTerms_0 rfl (lv_at hl 0 rfl) ?_
  refine lv_iconst (v := 0) hx hb dX12_readTerms_1 ci_0 ?_
  refine g_put C hw pM_31 dX12_readTerms_2 (fun H locs hw => ?_)
  refine lv_aload_n hx hb dX12_readTerms_5 rfl (lv_at hl 0 rfl) ?_
  refine lv_iconst (v := 0) hx hb dX12_readTerms_6 ci_0 ?_
  refine g_put C hw pM_48 dX12_readTerms_7 (fun H locs hw => ?_)
  refine lv_iconst (v := 0) hx hb dX12_readTerms_10 ci_0 ?_
  refine lv_istore_n (lv' := [(1, .int 0), (0, .ref o)]) hx hb dX12_readTerms_11 rfl hl (by decide) rfl (fun ls hl => ?_)
  refine lv_iconst (v := 0) hx hb dX12_readTerms_12 ci_0 ?_
  refine lv_istore_n (lv' := [(2, .int 0), (1, .int 0), (0, .ref o)]) hx hb dX12_readTerms_13 rfl hl (by decide) rfl (fun ls hl => ?_)
  refine lv_iconst (v := 1) hx hb dX12_readTerms_14 ci_1 ?_
  refine lv_istore_n (lv' := [(3, .int 1), (2, .int 0), (1, .int 0), (0, .ref o)]) hx hb dX12_readTerms_15 rfl hl (by decide) rfl (fun ls hl => ?_)
  exact wX12_readTerms_L16 C bigF _ _ _ _ _ _ _ _ hm _ _ _ (lv_sub hl [3, 2, 1, 0] rfl) hw
def mX12_insideAt_J33 (l1 : Int32) (s0 : Int32) (iv : mI) (ar : mA) : Option (Int32 × mI × mA) := if ((9 * l1) + s0) < 0 ∨ 1800 ≤ ((9 * l1) + s0).toNatClampNeg then none else some ((ar 36 ((9 * l1) + s0).toNatClampNeg), iv, ar)
set_option maxRecDepth 100000 in
set_option maxHeartbeats 4000000 in
theorem wX12_insideAt_J33 (C : mCx p s m args meth c RX12 cX12_insideAt 4 (some .int) D cI cJ A) : ∀ (l1 : Int32) (s0 : Int32) (iv : mI) (ar : mA) (rz : Int32) (ivz : mI) (arz : mA), mX12_insideAt_J33 l1 s0 iv ar = some (rz, ivz, arz) → ∀ (H : Heap) (locs : List Loc) (ls : Array Slot), lv_has ls 4 [(0, .ref o), (1, .int l1)] → inW D A s (wM cI o ad iv ar) H locs → W p l e (rmO 0 0) s m args below meth c H locs 0 0 (MQ below (ctQ D cI cJ (wM cI o ad ivz arz) A rz) args s 0 0 A) (F0 m 33 ls [.int s0]) := by
  intro l1 s0 iv ar rz ivz arz hm H locs ls hl hw
  have hx := C.1.1
  have hb := C.1.2.1
  unfold mX12_insideAt_J33 at hm
  refine lv_istore_n (lv' := [(3, .int s0), (0, .ref o), (1, .int l1)]) hx hb dX12_insideAt_33 rfl hl (by decide) rfl (fun ls hl => ?_)
  refine lv_aload_n hx hb dX12_insideAt_34 rfl (lv_at hl 1 rfl) ?_
  refine g_get C hw gM_36 dX12_insideAt_35 ?_
  refine lv_bipush (v := 9) hx hb dX12_insideAt_38 cb_9 ?_
  refine lv_iload_n hx hb dX12_insideAt_40 rfl (lv_at hl 2 rfl) ?_
  refine lv_imul hx hb dX12_insideAt_41 ?_
  refine lv_iload_n hx hb dX12_insideAt_42 rfl (lv_at hl 0 rfl) ?_
  refine lv_iadd hx hb dX12_insideAt_43 ?_
  obtain ⟨hi, hm⟩ := it_a hm
  refine g_ald C hw aM_36 hi dX12_insideAt_44 ?_
  cases hm
  exact g_iret C hw dX12_insideAt_45
def mX12_insideAt (a1 : Int32) (a2 : Int32) (iv : mI) (ar : mA) : Option (Int32 × mI × mA) := if a1 < 0 ∨ 200 ≤ a1.toNatClampNeg then none else if (ar 32 a1.toNatClampNeg) = 32 then if a2 = 0 then if a1 < 0 ∨ 200 ≤ a1.toNatClampNeg then none else mX12_insideAt_J33 a1 ((ar 38 a1.toNatClampNeg) - 1) iv ar else mX12_insideAt_J33 a1 (a2 - 1) iv ar else mX12_insideAt_J33 a1 a2 iv ar
set_option maxRecDepth 100000 in
set_option maxHeartbeats 4000000 in
theorem kX12_insideAt {a1 a2 : Int32} {iv ivz : mI} {ar arz : mA} {rz : Int32} (hm : mX12_insideAt a1 a2 iv ar = some (rz, ivz, arz)) : Ct l D cI cJ yX12_insideAt cX12_insideAt 4 (some .int) 0 0 [.ref o, .int a1, .int a2] (wM cI o ad iv ar) (wM cI o ad ivz arz) rz := by
  intro sz
  refine ct_of (by decide) (Nat.le_of_ble_eq_true rfl) ?_
  intro p e s m args below meth c C hw ls hl
  have hl : lv_has ls 4 [(0, .ref o), (1, .int a1), (2, .int a2)] := hl
  have hx := C.1.1
  have hb := C.1.2.1
  unfold mX12_insideAt at hm
  refine lv_aload_n hx hb dX12_insideAt_0 rfl (lv_at hl 0 rfl) ?_
  refine g_get C hw gM_32 dX12_insideAt_1 ?_
  refine lv_iload_n hx hb dX12_insideAt_4 rfl (lv_at hl 1 rfl) ?_
  obtain ⟨hi, hm⟩ := it_a hm
  refine g_ald C hw aM_32 hi dX12_insideAt_5 ?_
  refine lv_bipush (v := 32) hx hb dX12_insideAt_6 cb_32 ?_
  refine lv_icmp_ne (tgt := 32) hx hb dX12_insideAt_8 (by decide) (fun hc => ?_) (fun hc => ?_)
  · have hm := it_f hc hm
    refine lv_iload_n hx hb dX12_insideAt_32 rfl (lv_at hl 2 rfl) ?_
    exact wX12_insideAt_J33 C _ _ _ _ _ _ _ hm _ _ _ (lv_sub hl [0, 1] rfl) hw
  · have hm := it_t hc hm
    refine lv_iload_n hx hb dX12_insideAt_11 rfl (lv_at hl 2 rfl) ?_
    refine lv_if_ne (tgt := 26) hx hb dX12_insideAt_12 (by decide) (fun hc => ?_) (fun hc => ?_)
    · have hm := it_f hc hm
      refine lv_iload_n hx hb dX12_insideAt_26 rfl (lv_at hl 2 rfl) ?_
      refine lv_iconst (v := 1) hx hb dX12_insideAt_27 ci_1 ?_
      refine lv_isub hx hb dX12_insideAt_28 ?_
      refine lv_goto (tgt := 33) hx hb dX12_insideAt_29 (by decide) ?_
      exact wX12_insideAt_J33 C _ _ _ _ _ _ _ hm _ _ _ (lv_sub hl [0, 1] rfl) hw
    · have hm := it_t hc hm
      refine lv_aload_n hx hb dX12_insideAt_15 rfl (lv_at hl 0 rfl) ?_
      refine g_get C hw gM_38 dX12_insideAt_16 ?_
      refine lv_iload_n hx hb dX12_insideAt_19 rfl (lv_at hl 1 rfl) ?_
      obtain ⟨hi, hm⟩ := it_a hm
      refine g_ald C hw aM_38 hi dX12_insideAt_20 ?_
      refine lv_iconst (v := 1) hx hb dX12_insideAt_21 ci_1 ?_
      refine lv_isub hx hb dX12_insideAt_22 ?_
      refine lv_goto (tgt := 33) hx hb dX12_insideAt_23 (by decide) ?_
      exact wX12_insideAt_J33 C _ _ _ _ _ _ _ hm _ _ _ (lv_sub hl [0, 1] rfl) hw
def mX12_typeInside (a1 : Int32) (a2 : Int32) (iv : mI) (ar : mA) : Option (Int32 × mI × mA) := if ((9 * a1) + a2) < 0 ∨ 1800 ≤ ((9 * a1) + a2).toNatClampNeg then none else if (ar 36 ((9 * a1) + a2).toNatClampNeg) < 0 ∨ 200 ≤ (ar 36 ((9 * a1) + a2).toNatClampNeg).toNatClampNeg then none else some ((ar 54 (ar 36 ((9 * a1) + a2).toNatClampNeg).toNatClampNeg), iv, ar)
set_option maxRecDepth 100000 in
set_option maxHeartbeats 4000000 in
theorem kX12_typeInside {a1 a2 : Int32} {iv ivz : mI} {ar arz : mA} {rz : Int32} (hm : mX12_typeInside a1 a2 iv ar = some (rz, ivz, arz)) : Ct l D cI cJ yX12_typeInside cX12_typeInside 3 (some .int) 0 0 [.ref o, .int a1, .int a2] (wM cI o ad iv ar) (wM cI o ad ivz arz) rz := by
  intro sz
  refine ct_of (by decide) (Nat.le_of_ble_eq_true rfl) ?_
  intro p e s m args below meth c C hw ls hl
  have hl : lv_has ls 3 [(0, .ref o), (1, .int a1), (2, .int a2)] := hl
  have hx := C.1.1
  have hb := C.1.2.1
  unfold mX12_typeInside at hm
  refine lv_aload_n hx hb dX12_typeInside_0 rfl (lv_at hl 0 rfl) ?_
  refine g_get C hw gM_54 dX12_typeInside_1 ?_
  refine lv_aload_n hx hb dX12_typeInside_4 rfl (lv_at hl 0 rfl) ?_
  refine g_get C hw gM_36 dX12_typeInside_5 ?_
  refine lv_bipush (v := 9) hx hb dX12_typeInside_8 cb_9 ?_
  refine lv_iload_n hx hb dX12_typeInside_10 rfl (lv_at hl 1 rfl) ?_
  refine lv_imul hx hb dX12_typeInside_11 ?_
  refine lv_iload_n hx hb dX12_typeInside_12 rfl (lv_at hl 2 rfl) ?_
  refine lv_iadd hx hb dX12_typeInside_13 ?_
  obtain ⟨hi, hm⟩ := it_a hm
  refine g_ald C hw aM_36 hi dX12_typeInside_14 ?_
  obtain ⟨hi, hm⟩ := it_a hm
  refine g_ald C hw aM_54 hi dX12_typeInside_15 ?_
  cases hm
  exact g_iret C hw dX12_typeInside_16
def mX12_more (a1 : Int32) (iv : mI) (ar : mA) : Option (Int32 × mI × mA) := if (iv 3) < 200 then ob (mX12_newNode a1 0 iv ar) (fun r35 iv35 ar35 => some (r35, iv35, ar35)) else if (iv 24) = 0 then some (0, va_up iv 24 (-3), ar) else some (0, va_up iv 24 (iv 24), ar)
set_option maxRecDepth 100000 in
set_option maxHeartbeats 4000000 in
theorem kX12_more {a1 : Int32} {iv ivz : mI} {ar arz : mA} {rz : Int32} (hm : mX12_more a1 iv ar = some (rz, ivz, arz)) : Ct l D cI cJ yX12_more cX12_more 2 (some .int) 1 23 [.ref o, .int a1] (wM cI o ad iv ar) (wM cI o ad ivz arz) rz := by
  intro sz
  refine ct_of (by decide) (Nat.le_of_ble_eq_true rfl) ?_
  intro p e s m args below meth c C hw ls hl
  have hl : lv_has ls 2 [(0, .ref o), (1, .int a1)] := hl
  have hx := C.1.1
  have hb := C.1.2.1
  unfold mX12_more at hm
  refine lv_aload_n hx hb dX12_more_0 rfl (lv_at hl 0 rfl) ?_
  refine g_get C hw gM_3 dX12_more_1 ?_
  refine lv_sipush (v := 200) hx hb dX12_more_4 cs_200 ?_
  refine lv_icmp_lt (tgt := 32) hx hb dX12_more_7 (by decide) (fun hc => ?_) (fun hc => ?_)
  · have hm := it_t hc hm
    refine lv_aload_n hx hb dX12_more_32 rfl (lv_at hl 0 rfl) ?_
    refine lv_iload_n hx hb dX12_more_33 rfl (lv_at hl 1 rfl) ?_
    refine lv_iconst (v := 0) hx hb dX12_more_34 ci_0 ?_
    obtain ⟨r35, iv35, ar35, hc35, hm⟩ := ob_some hm
    refine g_calli (As := [.int a1, .int 0]) (rest := []) C hw (kX12_newNode hc35) mtX12_newNode lkX12_228 oM hl.1 rfl rfl (Nat.le_of_ble_eq_true rfl) ⟨Nat.le_of_ble_eq_true rfl, Nat.le_of_ble_eq_true rfl⟩ dX12_more_35 ⟨Nat.zero_le _, Nat.zero_le _⟩ (fun H locs hw => ?_)
    cases hm
    exact g_iret C hw dX12_more_38
  · have hm := it_f hc hm
    refine lv_aload_n hx hb dX12_more_10 rfl (lv_at hl 0 rfl) ?_
    refine lv_aload_n hx hb dX12_more_11 rfl (lv_at hl 0 rfl) ?_
    refine g_get C hw gM_24 dX12_more_12 ?_
    refine lv_if_ne (tgt := 23) hx hb dX12_more_15 (by decide) (fun hc => ?_) (fun hc => ?_)
    · have hm := it_f hc hm
      refine lv_aload_n hx hb dX12_more_23 rfl (lv_at hl 0 rfl) ?_
      refine g_get C hw gM_24 dX12_more_24 ?_
      refine g_put C hw pM_24 dX12_more_27 (fun H locs hw => ?_)
      refine lv_iconst (v := 0) hx hb dX12_more_30 ci_0 ?_
      cases hm
      exact g_iret C hw dX12_more_31
    · have hm := it_t hc hm
      refine lv_bipush (v := (-3)) hx hb dX12_more_18 cb_m3 ?_
      refine lv_goto (tgt := 27) hx hb dX12_more_20 (by decide) ?_
      refine g_put C hw pM_24 dX12_more_27 (fun H locs hw => ?_)
      refine lv_iconst (v := 0) hx hb dX12_more_30 ci_0 ?_
      cases hm
      exact g_iret C hw dX12_more_31
def mX12_beginTyping (a1 : Int32) (a2 : Int32) (iv : mI) (ar : mA) : Option (Int32 × mI × mA) := if (iv 53) < 0 ∨ 220 ≤ (iv 53).toNatClampNeg then none else if (iv 53) < 0 ∨ 220 ≤ (iv 53).toNatClampNeg then none else if (iv 53) < 0 ∨ 220 ≤ (iv 53).toNatClampNeg then none else some (0, va_up iv 53 ((iv 53) + 1), au (au (au ar 50 (iv 53).toNatClampNeg a1) 51 (iv 53).toNatClampNeg 0) 52 (iv 53).toNatClampNeg a2)
set_option maxRecDepth 100000 in
set_option maxHeartbeats 4000000 in
theorem kX12_beginTyping {a1 a2 : Int32} {iv ivz : mI} {ar arz : mA} {rz : Int32} (hm : mX12_beginTyping a1 a2 iv ar = some (rz, ivz, arz)) : CtV l D cI cJ yX12_beginTyping cX12_beginTyping 3 0 0 [.ref o, .int a1, .int a2] (wM cI o ad iv ar) (wM cI o ad ivz arz) := by
  intro sz
  refine ct_of (by decide) (Nat.le_of_ble_eq_true rfl) ?_
  intro p e s m args below meth c C hw ls hl
  have hl : lv_has ls 3 [(0, .ref o), (1, .int a1), (2, .int a2)] := hl
  have hx := C.1.1
  have hb := C.1.2.1
  unfold mX12_beginTyping at hm
  refine lv_aload_n hx hb dX12_beginTyping_0 rfl (lv_at hl 0 rfl) ?_
  refine g_get C hw gM_50 dX12_beginTyping_1 ?_
  refine lv_aload_n hx hb dX12_beginTyping_4 rfl (lv_at hl 0 rfl) ?_
  refine g_get C hw gM_53 dX12_beginTyping_5 ?_
  refine lv_iload_n hx hb dX12_beginTyping_8 rfl (lv_at hl 1 rfl) ?_
  obtain ⟨hi, hm⟩ := it_a hm
  refine g_ast C hw sM_50 hi dX12_beginTyping_9 (fun H locs hw => ?_)
  refine lv_aload_n hx hb dX12_beginTyping_10 rfl (lv_at hl 0 rfl) ?_
  refine g_get C hw gM_51 dX12_beginTyping_11 ?_
  refine lv_aload_n hx hb dX12_beginTyping_14 rfl (lv_at hl 0 rfl) ?_
  refine g_get C hw gM_53 dX12_beginTyping_15 ?_
  refine lv_iconst (v := 0) hx hb dX12_beginTyping_18 ci_0 ?_
  obtain ⟨hi, hm⟩ := it_a hm
  refine g_ast C hw sM_51 hi dX12_beginTyping_19 (fun H locs hw => ?_)
  refine lv_aload_n hx hb dX12_beginTyping_20 rfl (lv_at hl 0 rfl) ?_
  refine g_get C hw gM_52 dX12_beginTyping_21 ?_
  refine lv_aload_n hx hb dX12_beginTyping_24 rfl (lv_at hl 0 rfl) ?_
  refine g_get C hw gM_53 dX12_beginTyping_25 ?_
  refine lv_iload_n hx hb dX12_beginTyping_28 rfl (lv_at hl 2 rfl) ?_
  obtain ⟨hi, hm⟩ := it_a hm
  refine g_ast C hw sM_52 hi dX12_beginTyping_29 (fun H locs hw => ?_)
  refine lv_aload_n hx hb dX12_beginTyping_30 rfl (lv_at hl 0 rfl) ?_
  refine lv_dup hx hb dX12_beginTyping_31 rfl ?_
  refine g_get C hw gM_53 dX12_beginTyping_32 ?_
  refine lv_iconst (v := 1) hx hb dX12_beginTyping_35 ci_1 ?_
  refine lv_iadd hx hb dX12_beginTyping_36 ?_
  refine g_put C hw pM_53 dX12_beginTyping_37 (fun H locs hw => ?_)
  cases hm
  exact g_vret C hw dX12_beginTyping_40
def mX12_bindFor_J106 (l3 : Int32) (l4 : Int32) (s0 : Int32) (iv : mI) (ar : mA) : Option (Int32 × mI × mA) := if s0 = 0 then ob (mX12_more 1 iv ar) (fun r125 iv125 ar125 => some (r125, iv125, ar125)) else ob (mX12_part l3 l4 iv ar) (fun r117 iv117 ar117 => some (r117, iv117, ar117))
set_option maxRecDepth 100000 in
set_option maxHeartbeats 4000000 in
theorem wX12_bindFor_J106 (C : mCx p s m args meth c RX12 cX12_bindFor 6 (some .int) D cI cJ A) : ∀ (l3 : Int32) (l4 : Int32) (s0 : Int32) (iv : mI) (ar : mA) (rz : Int32) (ivz : mI) (arz : mA), mX12_bindFor_J106 l3 l4 s0 iv ar = some (rz, ivz, arz) → ∀ (H : Heap) (locs : List Loc) (ls : Array Slot), lv_has ls 6 [(0, .ref o), (3, .int l3), (4, .int l4)] → inW D A s (wM cI o ad iv ar) H locs → W p l e (rmO 2 44) s m args below meth c H locs 0 0 (MQ below (ctQ D cI cJ (wM cI o ad ivz arz) A rz) args s 0 0 A) (F0 m 106 ls [.int s0]) := by
  intro l3 l4 s0 iv ar rz ivz arz hm H locs ls hl hw
  have hx := C.1.1
  have hb := C.1.2.1
  unfold mX12_bindFor_J106 at hm
  refine lv_istore (lv' := [(5, .int s0), (0, .ref o), (3, .int l3), (4, .int l4)]) hx hb dX12_bindFor_106 hl (by decide) rfl (fun ls hl => ?_)
  refine lv_iload hx hb dX12_bindFor_108 (lv_at hl 0 rfl) ?_
  refine lv_if_eq (tgt := 123) hx hb dX12_bindFor_110 (by decide) (fun hc => ?_) (fun hc => ?_)
  · have hm := it_t hc hm
    refine lv_aload_n hx hb dX12_bindFor_123 rfl (lv_at hl 1 rfl) ?_
    refine lv_iconst (v := 1) hx hb dX12_bindFor_124 ci_1 ?_
    obtain ⟨r125, iv125, ar125, hc125, hm⟩ := ob_some hm
    refine g_calli (As := [.int 1]) (rest := []) C hw (kX12_more hc125) mtX12_more lkX12_340 oM hl.1 rfl rfl (Nat.le_of_ble_eq_true rfl) ⟨Nat.le_of_ble_eq_true rfl, Nat.le_of_ble_eq_true rfl⟩ dX12_bindFor_125 ⟨Nat.zero_le _, Nat.zero_le _⟩ (fun H locs hw => ?_)
    cases hm
    exact g_iret C hw dX12_bindFor_128
  · have hm := it_f hc hm
    refine lv_aload_n hx hb dX12_bindFor_113 rfl (lv_at hl 1 rfl) ?_
    refine lv_iload_n hx hb dX12_bindFor_114 rfl (lv_at hl 2 rfl) ?_
    refine lv_iload hx hb dX12_bindFor_115 (lv_at hl 3 rfl) ?_
    obtain ⟨r117, iv117, ar117, hc117, hm⟩ := ob_some hm
    refine g_calli (As := [.int l3, .int l4]) (rest := []) C hw (kX12_part hc117) mtX12_part lkX12_242 oM hl.1 rfl rfl (Nat.le_of_ble_eq_true rfl) ⟨Nat.le_of_ble_eq_true rfl, Nat.le_of_ble_eq_true rfl⟩ dX12_bindFor_117 ⟨Nat.zero_le _, Nat.zero_le _⟩ (fun H locs hw => ?_)
    refine lv_goto (tgt := 128) hx hb dX12_bindFor_120 (by decide) ?_
    cases hm
    exact g_iret C hw dX12_bindFor_128
def mX12_bindFor (a1 : Int32) (a2 : Int32) (iv : mI) (ar : mA) : Option (Int32 × mI × mA) := if a1 < 0 ∨ 200 ≤ a1.toNatClampNeg then none else if (ar 32 a1.toNatClampNeg) = 21 then if a1 < 0 ∨ 200 ≤ a1.toNatClampNeg then none else some ((ar 34 a1.toNatClampNeg), iv, ar) else if a1 < 0 ∨ 200 ≤ a1.toNatClampNeg then none else if (ar 32 a1.toNatClampNeg) = 33 then if a1 < 0 ∨ 200 ≤ a1.toNatClampNeg then none else some ((ar 34 a1.toNatClampNeg), iv, ar) else if a1 < 0 ∨ 200 ≤ a1.toNatClampNeg then none else if (ar 32 a1.toNatClampNeg) = 32 then if a2 = 0 then some ((-1), iv, ar) else if a1 < 0 ∨ 200 ≤ a1.toNatClampNeg then none else ob (mX12_typeInside a1 ((ar 38 a1.toNatClampNeg) - 1) iv ar) (fun r56 iv56 ar56 => if (((9 * a1) + a2) - 1) < 0 ∨ 1800 ≤ (((9 * a1) + a2) - 1).toNatClampNeg then none else if r56 < 0 ∨ 400 ≤ r56.toNatClampNeg then none else if (ar56 4 r56.toNatClampNeg) = 6 then if r56 < 0 ∨ 400 ≤ r56.toNatClampNeg then none else if (((ar56 5 r56.toNatClampNeg) >>> ((ar56 37 (((9 * a1) + a2) - 1).toNatClampNeg) &&& 31)) &&& 1) = 1 then mX12_bindFor_J106 r56 (ar56 37 (((9 * a1) + a2) - 1).toNatClampNeg) 1 iv56 ar56 else mX12_bindFor_J106 r56 (ar56 37 (((9 * a1) + a2) - 1).toNatClampNeg) 0 iv56 ar56 else mX12_bindFor_J106 r56 (ar56 37 (((9 * a1) + a2) - 1).toNatClampNeg) 0 iv56 ar56) else some ((-1), iv, ar)
set_option maxRecDepth 100000 in
set_option maxHeartbeats 4000000 in
theorem kX12_bindFor {a1 a2 : Int32} {iv ivz : mI} {ar arz : mA} {rz : Int32} (hm : mX12_bindFor a1 a2 iv ar = some (rz, ivz, arz)) : Ct l D cI cJ yX12_bindFor cX12_bindFor 6 (some .int) 2 44 [.ref o, .int a1, .int a2] (wM cI o ad iv ar) (wM cI o ad ivz arz) rz := by
  intro sz
  refine ct_of (by decide) (Nat.le_of_ble_eq_true rfl) ?_
  intro p e s m args below meth c C hw ls hl
  have hl : lv_has ls 6 [(0, .ref o), (1, .int a1), (2, .int a2)] := hl
  have hx := C.1.1
  have hb := C.1.2.1
  unfold mX12_bindFor at hm
  refine lv_aload_n hx hb dX12_bindFor_0 rfl (lv_at hl 0 rfl) ?_
  refine g_get C hw gM_32 dX12_bindFor_1 ?_
  refine lv_iload_n hx hb dX12_bindFor_4 rfl (lv_at hl 1 rfl) ?_
  obtain ⟨hi, hm⟩ := it_a hm
  refine g_ald C hw aM_32 hi dX12_bindFor_5 ?_
  refine lv_bipush (v := 21) hx hb dX12_bindFor_6 cb_21 ?_
  refine lv_icmp_eq (tgt := 22) hx hb dX12_bindFor_8 (by decide) (fun hc => ?_) (fun hc => ?_)
  · have hm := it_t hc hm
    refine lv_aload_n hx hb dX12_bindFor_22 rfl (lv_at hl 0 rfl) ?_
    refine g_get C hw gM_34 dX12_bindFor_23 ?_
    refine lv_iload_n hx hb dX12_bindFor_26 rfl (lv_at hl 1 rfl) ?_
    obtain ⟨hi, hm⟩ := it_a hm
    refine g_ald C hw aM_34 hi dX12_bindFor_27 ?_
    cases hm
    exact g_iret C hw dX12_bindFor_28
  · have hm := it_f hc hm
    refine lv_aload_n hx hb dX12_bindFor_11 rfl (lv_at hl 0 rfl) ?_
    refine g_get C hw gM_32 dX12_bindFor_12 ?_
    refine lv_iload_n hx hb dX12_bindFor_15 rfl (lv_at hl 1 rfl) ?_
    obtain ⟨hi, hm⟩ := it_a hm
    refine g_ald C hw aM_32 hi dX12_bindFor_16 ?_
    refine lv_bipush (v := 33) hx hb dX12_bindFor_17 cb_33 ?_
    refine lv_icmp_ne (tgt := 29) hx hb dX12_bindFor_19 (by decide) (fun hc => ?_) (fun hc => ?_)
    · have hm := it_f hc hm
      refine lv_aload_n hx hb dX12_bindFor_29 rfl (lv_at hl 0 rfl) ?_
      refine g_get C hw gM_32 dX12_bindFor_30 ?_
      refine lv_iload_n hx hb dX12_bindFor_33 rfl (lv_at hl 1 rfl) ?_
      obtain ⟨hi, hm⟩ := it_a hm
      refine g_ald C hw aM_32 hi dX12_bindFor_34 ?_
      refine lv_bipush (v := 32) hx hb dX12_bindFor_35 cb_32 ?_
      refine lv_icmp_ne (tgt := 44) hx hb dX12_bindFor_37 (by decide) (fun hc => ?_) (fun hc => ?_)
      · have hm := it_f hc hm
        refine lv_iconst (v := (-1)) hx hb dX12_bindFor_44 ci_m1 ?_
        cases hm
        exact g_iret C hw dX12_bindFor_45
      · have hm := it_t hc hm
        refine lv_iload_n hx hb dX12_bindFor_40 rfl (lv_at hl 2 rfl) ?_
        refine lv_if_ne (tgt := 46) hx hb dX12_bindFor_41 (by decide) (fun hc => ?_) (fun hc => ?_)
        · have hm := it_f hc hm
          refine lv_aload_n hx hb dX12_bindFor_46 rfl (lv_at hl 0 rfl) ?_
          refine lv_iload_n hx hb dX12_bindFor_47 rfl (lv_at hl 1 rfl) ?_
          refine lv_aload_n hx hb dX12_bindFor_48 rfl (lv_at hl 0 rfl) ?_
          refine g_get C hw gM_38 dX12_bindFor_49 ?_
          refine lv_iload_n hx hb dX12_bindFor_52 rfl (lv_at hl 1 rfl) ?_
          obtain ⟨hi, hm⟩ := it_a hm
          refine g_ald C hw aM_38 hi dX12_bindFor_53 ?_
          refine lv_iconst (v := 1) hx hb dX12_bindFor_54 ci_1 ?_
          refine lv_isub hx hb dX12_bindFor_55 ?_
          obtain ⟨r56, iv56, ar56, hc56, hm⟩ := ob_some hm
          refine g_calli (As := [.int a1, .int ((ar 38 a1.toNatClampNeg) - 1)]) (rest := []) C hw (kX12_typeInside hc56) mtX12_typeInside lkX12_337 oM hl.1 rfl rfl (Nat.le_of_ble_eq_true rfl) ⟨Nat.le_of_ble_eq_true rfl, Nat.le_of_ble_eq_true rfl⟩ dX12_bindFor_56 ⟨Nat.zero_le _, Nat.zero_le _⟩ (fun H locs hw => ?_)
          refine lv_istore_n (lv' := [(3, .int r56), (0, .ref o), (1, .int a1), (2, .int a2)]) hx hb dX12_bindFor_59 rfl hl (by decide) rfl (fun ls hl => ?_)
          refine lv_aload_n hx hb dX12_bindFor_60 rfl (lv_at hl 1 rfl) ?_
          refine g_get C hw gM_37 dX12_bindFor_61 ?_
          refine lv_bipush (v := 9) hx hb dX12_bindFor_64 cb_9 ?_
          refine lv_iload_n hx hb dX12_bindFor_66 rfl (lv_at hl 2 rfl) ?_
          refine lv_imul hx hb dX12_bindFor_67 ?_
          refine lv_iload_n hx hb dX12_bindFor_68 rfl (lv_at hl 3 rfl) ?_
          refine lv_iadd hx hb dX12_bindFor_69 ?_
          refine lv_iconst (v := 1) hx hb dX12_bindFor_70 ci_1 ?_
          refine lv_isub hx hb dX12_bindFor_71 ?_
          obtain ⟨hi, hm⟩ := it_a hm
          refine g_ald C hw aM_37 hi dX12_bindFor_72 ?_
          refine lv_istore (lv' := [(4, .int (ar56 37 (((9 * a1) + a2) - 1).toNatClampNeg)), (3, .int r56), (0, .ref o), (1, .int a1), (2, .int a2)]) hx hb dX12_bindFor_73 hl (by decide) rfl (fun ls hl => ?_)
          refine lv_aload_n hx hb dX12_bindFor_75 rfl (lv_at hl 2 rfl) ?_
          refine g_get C hw gM_4 dX12_bindFor_76 ?_
          refine lv_iload_n hx hb dX12_bindFor_79 rfl (lv_at hl 1 rfl) ?_
          obtain ⟨hi, hm⟩ := it_a hm
          refine g_ald C hw aM_4 hi dX12_bindFor_80 ?_
          refine lv_bipush (v := 6) hx hb dX12_bindFor_81 cb_6 ?_
          refine lv_icmp_ne (tgt := 105) hx hb dX12_bindFor_83 (by decide) (fun hc => ?_) (fun hc => ?_)
          · have hm := it_f hc hm
            refine lv_iconst (v := 0) hx hb dX12_bindFor_105 ci_0 ?_
            exact wX12_bindFor_J106 C _ _ _ _ _ _ _ _ hm _ _ _ (lv_sub hl [2, 1, 0] rfl) hw
          · have hm := it_t hc hm
            refine lv_aload_n hx hb dX12_bindFor_86 rfl (lv_at hl 2 rfl) ?_
            refine g_get C hw gM_5 dX12_bindFor_87 ?_
            refine lv_iload_n hx hb dX12_bindFor_90 rfl (lv_at hl 1 rfl) ?_
            obtain ⟨hi, hm⟩ := it_a hm
            refine g_ald C hw aM_5 hi dX12_bindFor_91 ?_
            refine lv_iload hx hb dX12_bindFor_92 (lv_at hl 0 rfl) ?_
            refine lv_ishr hx hb dX12_bindFor_94 ?_
            refine lv_iconst (v := 1) hx hb dX12_bindFor_95 ci_1 ?_
            refine lv_iand hx hb dX12_bindFor_96 ?_
            refine lv_iconst (v := 1) hx hb dX12_bindFor_97 ci_1 ?_
            refine lv_icmp_ne (tgt := 105) hx hb dX12_bindFor_98 (by decide) (fun hc => ?_) (fun hc => ?_)
            · have hm := it_f hc hm
              refine lv_iconst (v := 0) hx hb dX12_bindFor_105 ci_0 ?_
              exact wX12_bindFor_J106 C _ _ _ _ _ _ _ _ hm _ _ _ (lv_sub hl [2, 1, 0] rfl) hw
            · have hm := it_t hc hm
              refine lv_iconst (v := 1) hx hb dX12_bindFor_101 ci_1 ?_
              refine lv_goto (tgt := 106) hx hb dX12_bindFor_102 (by decide) ?_
              exact wX12_bindFor_J106 C _ _ _ _ _ _ _ _ hm _ _ _ (lv_sub hl [2, 1, 0] rfl) hw
        · have hm := it_t hc hm
          refine lv_iconst (v := (-1)) hx hb dX12_bindFor_44 ci_m1 ?_
          cases hm
          exact g_iret C hw dX12_bindFor_45
    · have hm := it_t hc hm
      refine lv_aload_n hx hb dX12_bindFor_22 rfl (lv_at hl 0 rfl) ?_
      refine g_get C hw gM_34 dX12_bindFor_23 ?_
      refine lv_iload_n hx hb dX12_bindFor_26 rfl (lv_at hl 1 rfl) ?_
      obtain ⟨hi, hm⟩ := it_a hm
      refine g_ald C hw aM_34 hi dX12_bindFor_27 ?_
      cases hm
      exact g_iret C hw dX12_bindFor_28
def mX12_misfit (a1 : Int32) (iv : mI) (ar : mA) : Option (Int32 × mI × mA) := if a1 < 0 ∨ 200 ≤ a1.toNatClampNeg then none else some (0, va_up (va_up iv 24 (-15)) 2 (ar 33 a1.toNatClampNeg), ar)
set_option maxRecDepth 100000 in
set_option maxHeartbeats 4000000 in
theorem kX12_misfit {a1 : Int32} {iv ivz : mI} {ar arz : mA} {rz : Int32} (hm : mX12_misfit a1 iv ar = some (rz, ivz, arz)) : Ct l D cI cJ yX12_misfit cX12_misfit 2 (some .int) 0 0 [.ref o, .int a1] (wM cI o ad iv ar) (wM cI o ad ivz arz) rz := by
  intro sz
  refine ct_of (by decide) (Nat.le_of_ble_eq_true rfl) ?_
  intro p e s m args below meth c C hw ls hl
  have hl : lv_has ls 2 [(0, .ref o), (1, .int a1)] := hl
  have hx := C.1.1
  have hb := C.1.2.1
  unfold mX12_misfit at hm
  refine lv_aload_n hx hb dX12_misfit_0 rfl (lv_at hl 0 rfl) ?_
  refine lv_bipush (v := (-15)) hx hb dX12_misfit_1 cb_m15 ?_
  refine g_put C hw pM_24 dX12_misfit_3 (fun H locs hw => ?_)
  refine lv_aload_n hx hb dX12_misfit_6 rfl (lv_at hl 0 rfl) ?_
  refine lv_aload_n hx hb dX12_misfit_7 rfl (lv_at hl 0 rfl) ?_
  refine g_get C hw gM_33 dX12_misfit_8 ?_
  refine lv_iload_n hx hb dX12_misfit_11 rfl (lv_at hl 1 rfl) ?_
  obtain ⟨hi, hm⟩ := it_a hm
  refine g_ald C hw aM_33 hi dX12_misfit_12 ?_
  refine g_put C hw pM_2 dX12_misfit_13 (fun H locs hw => ?_)
  refine lv_iconst (v := 0) hx hb dX12_misfit_16 ci_0 ?_
  cases hm
  exact g_iret C hw dX12_misfit_17
def mX12_typeApplied (a1 : Int32) (iv : mI) (ar : mA) : Option (Int32 × mI × mA) := ob (mX12_typeInside a1 0 iv ar) (fun r3 iv3 ar3 => if r3 < 0 ∨ 400 ≤ r3.toNatClampNeg then none else if (ar3 4 r3.toNatClampNeg) = 1 then some (r3, iv3, ar3) else if r3 < 0 ∨ 400 ≤ r3.toNatClampNeg then none else if (ar3 4 r3.toNatClampNeg) = 4 then ob (mX12_typeInside a1 1 iv3 ar3) (fun r33 iv33 ar33 => ob (mX12_part r3 0 iv33 ar33) (fun r39 iv39 ar39 => ob (mX12_isBelow r33 r39 iv39 ar39) (fun r42 iv42 ar42 => if r42 = 0 then ob (mX12_misfit a1 iv42 ar42) (fun r59 iv59 ar59 => some (r59, iv59, ar59)) else ob (mX12_part r3 1 iv42 ar42) (fun r51 iv51 ar51 => some (r51, iv51, ar51))))) else ob (mX12_misfit a1 iv3 ar3) (fun r59 iv59 ar59 => some (r59, iv59, ar59)))
set_option maxRecDepth 100000 in
set_option maxHeartbeats 4000000 in
theorem kX12_typeApplied {a1 : Int32} {iv ivz : mI} {ar arz : mA} {rz : Int32} (hm : mX12_typeApplied a1 iv ar = some (rz, ivz, arz)) : Ct l D cI cJ yX12_typeApplied cX12_typeApplied 3 (some .int) 6 145 [.ref o, .int a1] (wM cI o ad iv ar) (wM cI o ad ivz arz) rz := by
  intro sz
  refine ct_of (by decide) (Nat.le_of_ble_eq_true rfl) ?_
  intro p e s m args below meth c C hw ls hl
  have hl : lv_has ls 3 [(0, .ref o), (1, .int a1)] := hl
  have hx := C.1.1
  have hb := C.1.2.1
  unfold mX12_typeApplied at hm
  refine lv_aload_n hx hb dX12_typeApplied_0 rfl (lv_at hl 0 rfl) ?_
  refine lv_iload_n hx hb dX12_typeApplied_1 rfl (lv_at hl 1 rfl) ?_
  refine lv_iconst (v := 0) hx hb dX12_typeApplied_2 ci_0 ?_
  obtain ⟨r3, iv3, ar3, hc3, hm⟩ := ob_some hm
  refine g_calli (As := [.int a1, .int 0]) (rest := []) C hw (kX12_typeInside hc3) mtX12_typeInside lkX12_337 oM hl.1 rfl rfl (Nat.le_of_ble_eq_true rfl) ⟨Nat.le_of_ble_eq_true rfl, Nat.le_of_ble_eq_true rfl⟩ dX12_typeApplied_3 ⟨Nat.zero_le _, Nat.zero_le _⟩ (fun H locs hw => ?_)
  refine lv_istore_n (lv' := [(2, .int r3), (0, .ref o), (1, .int a1)]) hx hb dX12_typeApplied_6 rfl hl (by decide) rfl (fun ls hl => ?_)
  refine lv_aload_n hx hb dX12_typeApplied_7 rfl (lv_at hl 1 rfl) ?_
  refine g_get C hw gM_4 dX12_typeApplied_8 ?_
  refine lv_iload_n hx hb dX12_typeApplied_11 rfl (lv_at hl 0 rfl) ?_
  obtain ⟨hi, hm⟩ := it_a hm
  refine g_ald C hw aM_4 hi dX12_typeApplied_12 ?_
  refine lv_iconst (v := 1) hx hb dX12_typeApplied_13 ci_1 ?_
  refine lv_icmp_ne (tgt := 19) hx hb dX12_typeApplied_14 (by decide) (fun hc => ?_) (fun hc => ?_)
  · have hm := it_f hc hm
    refine lv_aload_n hx hb dX12_typeApplied_19 rfl (lv_at hl 1 rfl) ?_
    refine g_get C hw gM_4 dX12_typeApplied_20 ?_
    refine lv_iload_n hx hb dX12_typeApplied_23 rfl (lv_at hl 0 rfl) ?_
    obtain ⟨hi, hm⟩ := it_a hm
    refine g_ald C hw aM_4 hi dX12_typeApplied_24 ?_
    refine lv_iconst (v := 4) hx hb dX12_typeApplied_25 ci_4 ?_
    refine lv_icmp_ne (tgt := 57) hx hb dX12_typeApplied_26 (by decide) (fun hc => ?_) (fun hc => ?_)
    · have hm := it_f hc hm
      refine lv_aload_n hx hb dX12_typeApplied_57 rfl (lv_at hl 1 rfl) ?_
      refine lv_iload_n hx hb dX12_typeApplied_58 rfl (lv_at hl 2 rfl) ?_
      obtain ⟨r59, iv59, ar59, hc59, hm⟩ := ob_some hm
      refine g_calli (As := [.int a1]) (rest := []) C hw (kX12_misfit hc59) mtX12_misfit lkX12_349 oM hl.1 rfl rfl (Nat.le_of_ble_eq_true rfl) ⟨Nat.le_of_ble_eq_true rfl, Nat.le_of_ble_eq_true rfl⟩ dX12_typeApplied_59 ⟨Nat.zero_le _, Nat.zero_le _⟩ (fun H locs hw => ?_)
      cases hm
      exact g_iret C hw dX12_typeApplied_62
    · have hm := it_t hc hm
      refine lv_aload_n hx hb dX12_typeApplied_29 rfl (lv_at hl 1 rfl) ?_
      refine lv_aload_n hx hb dX12_typeApplied_30 rfl (lv_at hl 1 rfl) ?_
      refine lv_iload_n hx hb dX12_typeApplied_31 rfl (lv_at hl 2 rfl) ?_
      refine lv_iconst (v := 1) hx hb dX12_typeApplied_32 ci_1 ?_
      obtain ⟨r33, iv33, ar33, hc33, hm⟩ := ob_some hm
      refine g_calli (As := [.int a1, .int 1]) (rest := [.ref o]) C hw (kX12_typeInside hc33) mtX12_typeInside lkX12_337 oM hl.1 rfl rfl (Nat.le_of_ble_eq_true rfl) ⟨Nat.le_of_ble_eq_true rfl, Nat.le_of_ble_eq_true rfl⟩ dX12_typeApplied_33 ⟨Nat.zero_le _, Nat.zero_le _⟩ (fun H locs hw => ?_)
      refine lv_aload_n hx hb dX12_typeApplied_36 rfl (lv_at hl 1 rfl) ?_
      refine lv_iload_n hx hb dX12_typeApplied_37 rfl (lv_at hl 0 rfl) ?_
      refine lv_iconst (v := 0) hx hb dX12_typeApplied_38 ci_0 ?_
      obtain ⟨r39, iv39, ar39, hc39, hm⟩ := ob_some hm
      refine g_calli (As := [.int r3, .int 0]) (rest := [.int r33, .ref o]) C hw (kX12_part hc39) mtX12_part lkX12_242 oM hl.1 rfl rfl (Nat.le_of_ble_eq_true rfl) ⟨Nat.le_of_ble_eq_true rfl, Nat.le_of_ble_eq_true rfl⟩ dX12_typeApplied_39 ⟨Nat.zero_le _, Nat.zero_le _⟩ (fun H locs hw => ?_)
      obtain ⟨r42, iv42, ar42, hc42, hm⟩ := ob_some hm
      refine g_calli (As := [.int r33, .int r39]) (rest := []) C hw (kX12_isBelow hc42) mtX12_isBelow lkX12_269 oM hl.1 rfl rfl (Nat.le_of_ble_eq_true rfl) ⟨Nat.le_of_ble_eq_true rfl, Nat.le_of_ble_eq_true rfl⟩ dX12_typeApplied_42 ⟨Nat.zero_le _, Nat.zero_le _⟩ (fun H locs hw => ?_)
      refine lv_if_eq (tgt := 57) hx hb dX12_typeApplied_45 (by decide) (fun hc => ?_) (fun hc => ?_)
      · have hm := it_t hc hm
        refine lv_aload_n hx hb dX12_typeApplied_57 rfl (lv_at hl 1 rfl) ?_
        refine lv_iload_n hx hb dX12_typeApplied_58 rfl (lv_at hl 2 rfl) ?_
        obtain ⟨r59, iv59, ar59, hc59, hm⟩ := ob_some hm
        refine g_calli (As := [.int a1]) (rest := []) C hw (kX12_misfit hc59) mtX12_misfit lkX12_349 oM hl.1 rfl rfl (Nat.le_of_ble_eq_true rfl) ⟨Nat.le_of_ble_eq_true rfl, Nat.le_of_ble_eq_true rfl⟩ dX12_typeApplied_59 ⟨Nat.zero_le _, Nat.zero_le _⟩ (fun H locs hw => ?_)
        cases hm
        exact g_iret C hw dX12_typeApplied_62
      · have hm := it_f hc hm
        refine lv_aload_n hx hb dX12_typeApplied_48 rfl (lv_at hl 1 rfl) ?_
        refine lv_iload_n hx hb dX12_typeApplied_49 rfl (lv_at hl 0 rfl) ?_
        refine lv_iconst (v := 1) hx hb dX12_typeApplied_50 ci_1 ?_
        obtain ⟨r51, iv51, ar51, hc51, hm⟩ := ob_some hm
        refine g_calli (As := [.int r3, .int 1]) (rest := []) C hw (kX12_part hc51) mtX12_part lkX12_242 oM hl.1 rfl rfl (Nat.le_of_ble_eq_true rfl) ⟨Nat.le_of_ble_eq_true rfl, Nat.le_of_ble_eq_true rfl⟩ dX12_typeApplied_51 ⟨Nat.zero_le _, Nat.zero_le _⟩ (fun H locs hw => ?_)
        refine lv_goto (tgt := 62) hx hb dX12_typeApplied_54 (by decide) ?_
        cases hm
        exact g_iret C hw dX12_typeApplied_62
  · have hm := it_t hc hm
    refine lv_iload_n hx hb dX12_typeApplied_17 rfl (lv_at hl 0 rfl) ?_
    cases hm
    exact g_iret C hw dX12_typeApplied_18
def mX12_isKind (a1 : Int32) (a2 : Int32) (iv : mI) (ar : mA) : Option (Int32 × mI × mA) := if a1 < 0 ∨ 400 ≤ a1.toNatClampNeg then none else if (ar 4 a1.toNatClampNeg) = 1 then some (1, iv, ar) else if a1 < 0 ∨ 400 ≤ a1.toNatClampNeg then none else if (ar 4 a1.toNatClampNeg) = a2 then some (1, iv, ar) else some (0, iv, ar)
set_option maxRecDepth 100000 in
set_option maxHeartbeats 4000000 in
theorem kX12_isKind {a1 a2 : Int32} {iv ivz : mI} {ar arz : mA} {rz : Int32} (hm : mX12_isKind a1 a2 iv ar = some (rz, ivz, arz)) : Ct l D cI cJ yX12_isKind cX12_isKind 3 (some .boolean) 0 0 [.ref o, .int a1, .int a2] (wM cI o ad iv ar) (wM cI o ad ivz arz) rz := by
  intro sz
  refine ct_of (by decide) (Nat.le_of_ble_eq_true rfl) ?_
  intro p e s m args below meth c C hw ls hl
  have hl : lv_has ls 3 [(0, .ref o), (1, .int a1), (2, .int a2)] := hl
  have hx := C.1.1
  have hb := C.1.2.1
  unfold mX12_isKind at hm
  refine lv_aload_n hx hb dX12_isKind_0 rfl (lv_at hl 0 rfl) ?_
  refine g_get C hw gM_4 dX12_isKind_1 ?_
  refine lv_iload_n hx hb dX12_isKind_4 rfl (lv_at hl 1 rfl) ?_
  obtain ⟨hi, hm⟩ := it_a hm
  refine g_ald C hw aM_4 hi dX12_isKind_5 ?_
  refine lv_iconst (v := 1) hx hb dX12_isKind_6 ci_1 ?_
  refine lv_icmp_eq (tgt := 20) hx hb dX12_isKind_7 (by decide) (fun hc => ?_) (fun hc => ?_)
  · have hm := it_t hc hm
    refine lv_iconst (v := 1) hx hb dX12_isKind_20 ci_1 ?_
    refine lv_goto (tgt := 25) hx hb dX12_isKind_21 (by decide) ?_
    cases hm
    exact g_zret C hw (Or.inr rfl) dX12_isKind_25
  · have hm := it_f hc hm
    refine lv_aload_n hx hb dX12_isKind_10 rfl (lv_at hl 0 rfl) ?_
    refine g_get C hw gM_4 dX12_isKind_11 ?_
    refine lv_iload_n hx hb dX12_isKind_14 rfl (lv_at hl 1 rfl) ?_
    obtain ⟨hi, hm⟩ := it_a hm
    refine g_ald C hw aM_4 hi dX12_isKind_15 ?_
    refine lv_iload_n hx hb dX12_isKind_16 rfl (lv_at hl 2 rfl) ?_
    refine lv_icmp_ne (tgt := 24) hx hb dX12_isKind_17 (by decide) (fun hc => ?_) (fun hc => ?_)
    · have hm := it_f hc hm
      refine lv_iconst (v := 0) hx hb dX12_isKind_24 ci_0 ?_
      cases hm
      exact g_zret C hw (Or.inl rfl) dX12_isKind_25
    · have hm := it_t hc hm
      refine lv_iconst (v := 1) hx hb dX12_isKind_20 ci_1 ?_
      refine lv_goto (tgt := 25) hx hb dX12_isKind_21 (by decide) ?_
      cases hm
      exact g_zret C hw (Or.inr rfl) dX12_isKind_25
def mX12_united (a1 : Int32) (a2 : Int32) (iv : mI) (ar : mA) : Option (Int32 × mI × mA) := ob (mX12_join 0 a1 a2 iv ar) (fun r4 iv4 ar4 => if 0 ≤ r4 then some (r4, iv4, ar4) else some (0, va_up iv4 24 (-3), ar4))
set_option maxRecDepth 100000 in
set_option maxHeartbeats 4000000 in
theorem kX12_united {a1 a2 : Int32} {iv ivz : mI} {ar arz : mA} {rz : Int32} (hm : mX12_united a1 a2 iv ar = some (rz, ivz, arz)) : Ct l D cI cJ yX12_united cX12_united 4 (some .int) 3 89 [.ref o, .int a1, .int a2] (wM cI o ad iv ar) (wM cI o ad ivz arz) rz := by
  intro sz
  refine ct_of (by decide) (Nat.le_of_ble_eq_true rfl) ?_
  intro p e s m args below meth c C hw ls hl
  have hl : lv_has ls 4 [(0, .ref o), (1, .int a1), (2, .int a2)] := hl
  have hx := C.1.1
  have hb := C.1.2.1
  unfold mX12_united at hm
  refine lv_aload_n hx hb dX12_united_0 rfl (lv_at hl 0 rfl) ?_
  refine lv_iconst (v := 0) hx hb dX12_united_1 ci_0 ?_
  refine lv_iload_n hx hb dX12_united_2 rfl (lv_at hl 1 rfl) ?_
  refine lv_iload_n hx hb dX12_united_3 rfl (lv_at hl 2 rfl) ?_
  obtain ⟨r4, iv4, ar4, hc4, hm⟩ := ob_some hm
  refine g_calli (As := [.int 0, .int a1, .int a2]) (rest := []) C hw (kX12_join hc4) mtX12_join lkX12_291 oM hl.1 rfl rfl (Nat.le_of_ble_eq_true rfl) ⟨Nat.le_of_ble_eq_true rfl, Nat.le_of_ble_eq_true rfl⟩ dX12_united_4 ⟨Nat.zero_le _, Nat.zero_le _⟩ (fun H locs hw => ?_)
  refine lv_istore_n (lv' := [(3, .int r4), (0, .ref o), (1, .int a1), (2, .int a2)]) hx hb dX12_united_7 rfl hl (by decide) rfl (fun ls hl => ?_)
  refine lv_iload_n hx hb dX12_united_8 rfl (lv_at hl 0 rfl) ?_
  refine lv_if_ge (tgt := 20) hx hb dX12_united_9 (by decide) (fun hc => ?_) (fun hc => ?_)
  · have hm := it_t hc hm
    refine lv_iload_n hx hb dX12_united_20 rfl (lv_at hl 0 rfl) ?_
    cases hm
    exact g_iret C hw dX12_united_21
  · have hm := it_f hc hm
    refine lv_aload_n hx hb dX12_united_12 rfl (lv_at hl 1 rfl) ?_
    refine lv_bipush (v := (-3)) hx hb dX12_united_13 cb_m3 ?_
    refine g_put C hw pM_24 dX12_united_15 (fun H locs hw => ?_)
    refine lv_iconst (v := 0) hx hb dX12_united_18 ci_0 ?_
    cases hm
    exact g_iret C hw dX12_united_19
def mX12_typeRecord_L8 : Nat → Int32 → Int32 → Int32 → mI → mA → Option (Int32 × mI × mA)
  | 0, _, _, _, _, _ => none
  | n + 1, l1, l2, l3, iv, ar => if l1 < 0 ∨ 200 ≤ l1.toNatClampNeg then none else if (ar 38 l1.toNatClampNeg) ≤ l3 then some (l2, iv, ar) else if (iv 24) = 0 then if ((9 * l1) + l3) < 0 ∨ 1800 ≤ ((9 * l1) + l3).toNatClampNeg then none else if l2 < 0 ∨ 400 ≤ l2.toNatClampNeg then none else if l2 < 0 ∨ 400 ≤ l2.toNatClampNeg then none else ob (mX12_typeInside l1 l3 iv (au ar 5 l2.toNatClampNeg ((ar 5 l2.toNatClampNeg) ||| (1 <<< ((ar 37 ((9 * l1) + l3).toNatClampNeg) &&& 31))))) (fun r65 iv65 ar65 => if ((8 * l2) + (ar 37 ((9 * l1) + l3).toNatClampNeg)) < 0 ∨ 3200 ≤ ((8 * l2) + (ar 37 ((9 * l1) + l3).toNatClampNeg)).toNatClampNeg then none else mX12_typeRecord_L8 n l1 l2 (l3 + 1) iv65 (au ar65 6 ((8 * l2) + (ar 37 ((9 * l1) + l3).toNatClampNeg)).toNatClampNeg r65)) else some (l2, iv, ar)
set_option maxRecDepth 100000 in
set_option maxHeartbeats 4000000 in
theorem wX12_typeRecord_L8 (C : mCx p s m args meth c RX12 cX12_typeRecord 5 (some .int) D cI cJ A) (n : Nat) : ∀ (l1 : Int32) (l2 : Int32) (l3 : Int32) (iv : mI) (ar : mA) (rz : Int32) (ivz : mI) (arz : mA), mX12_typeRecord_L8 n l1 l2 l3 iv ar = some (rz, ivz, arz) → ∀ (H : Heap) (locs : List Loc) (ls : Array Slot), lv_has ls 5 [(0, .ref o), (1, .int l1), (2, .int l2), (3, .int l3)] → inW D A s (wM cI o ad iv ar) H locs → W p l e (rmO 2 44) s m args below meth c H locs 0 0 (MQ below (ctQ D cI cJ (wM cI o ad ivz arz) A rz) args s 0 0 A) (F0 m 8 ls []) := by
  induction n with
  | zero =>
    intro l1 l2 l3 iv ar rz ivz arz hm H locs ls hl hw
    have hm : (none : Option (Int32 × mI × mA)) = some _ := hm
    cases hm
  | succ n ih =>
    intro l1 l2 l3 iv ar rz ivz arz hm H locs ls hl hw
    have hx := C.1.1
    have hb := C.1.2.1
    unfold mX12_typeRecord_L8 at hm
    refine lv_iload_n hx hb dX12_typeRecord_8 rfl (lv_at hl 3 rfl) ?_
    refine lv_aload_n hx hb dX12_typeRecord_9 rfl (lv_at hl 0 rfl) ?_
    refine g_get C hw gM_38 dX12_typeRecord_10 ?_
    refine lv_iload_n hx hb dX12_typeRecord_13 rfl (lv_at hl 1 rfl) ?_
    obtain ⟨hi, hm⟩ := it_a hm
    refine g_ald C hw aM_38 hi dX12_typeRecord_14 ?_
    refine lv_icmp_ge (tgt := 75) hx hb dX12_typeRecord_15 (by decide) (fun hc => ?_) (fun hc => ?_)
    · have hm := it_t hc hm
      refine lv_iload_n hx hb dX12_typeRecord_75 rfl (lv_at hl 2 rfl) ?_
      cases hm
      exact g_iret C hw dX12_typeRecord_76
    · have hm := it_f hc hm
      refine lv_aload_n hx hb dX12_typeRecord_18 rfl (lv_at hl 0 rfl) ?_
      refine g_get C hw gM_24 dX12_typeRecord_19 ?_
      refine lv_if_ne (tgt := 75) hx hb dX12_typeRecord_22 (by decide) (fun hc => ?_) (fun hc => ?_)
      · have hm := it_f hc hm
        refine lv_iload_n hx hb dX12_typeRecord_75 rfl (lv_at hl 2 rfl) ?_
        cases hm
        exact g_iret C hw dX12_typeRecord_76
      · have hm := it_t hc hm
        refine lv_aload_n hx hb dX12_typeRecord_25 rfl (lv_at hl 0 rfl) ?_
        refine g_get C hw gM_37 dX12_typeRecord_26 ?_
        refine lv_bipush (v := 9) hx hb dX12_typeRecord_29 cb_9 ?_
        refine lv_iload_n hx hb dX12_typeRecord_31 rfl (lv_at hl 1 rfl) ?_
        refine lv_imul hx hb dX12_typeRecord_32 ?_
        refine lv_iload_n hx hb dX12_typeRecord_33 rfl (lv_at hl 3 rfl) ?_
        refine lv_iadd hx hb dX12_typeRecord_34 ?_
        obtain ⟨hi, hm⟩ := it_a hm
        refine g_ald C hw aM_37 hi dX12_typeRecord_35 ?_
        refine lv_istore (lv' := [(4, .int (ar 37 ((9 * l1) + l3).toNatClampNeg)), (0, .ref o), (1, .int l1), (2, .int l2), (3, .int l3)]) hx hb dX12_typeRecord_36 hl (by decide) rfl (fun ls hl => ?_)
        refine lv_aload_n hx hb dX12_typeRecord_38 rfl (lv_at hl 1 rfl) ?_
        refine g_get C hw gM_5 dX12_typeRecord_39 ?_
        refine lv_iload_n hx hb dX12_typeRecord_42 rfl (lv_at hl 3 rfl) ?_
        refine lv_dup2_11 hx hb dX12_typeRecord_43 rfl rfl ?_
        obtain ⟨hi, hm⟩ := it_a hm
        refine g_ald C hw aM_5 hi dX12_typeRecord_44 ?_
        refine lv_iconst (v := 1) hx hb dX12_typeRecord_45 ci_1 ?_
        refine lv_iload hx hb dX12_typeRecord_46 (lv_at hl 0 rfl) ?_
        refine lv_ishl hx hb dX12_typeRecord_48 ?_
        refine lv_ior hx hb dX12_typeRecord_49 ?_
        obtain ⟨hi, hm⟩ := it_a hm
        refine g_ast C hw sM_5 hi dX12_typeRecord_50 (fun H locs hw => ?_)
        refine lv_aload_n hx hb dX12_typeRecord_51 rfl (lv_at hl 1 rfl) ?_
        refine g_get C hw gM_6 dX12_typeRecord_52 ?_
        refine lv_bipush (v := 8) hx hb dX12_typeRecord_55 cb_8 ?_
        refine lv_iload_n hx hb dX12_typeRecord_57 rfl (lv_at hl 3 rfl) ?_
        refine lv_imul hx hb dX12_typeRecord_58 ?_
        refine lv_iload hx hb dX12_typeRecord_59 (lv_at hl 0 rfl) ?_
        refine lv_iadd hx hb dX12_typeRecord_61 ?_
        refine lv_aload_n hx hb dX12_typeRecord_62 rfl (lv_at hl 1 rfl) ?_
        refine lv_iload_n hx hb dX12_typeRecord_63 rfl (lv_at hl 2 rfl) ?_
        refine lv_iload_n hx hb dX12_typeRecord_64 rfl (lv_at hl 4 rfl) ?_
        obtain ⟨r65, iv65, ar65, hc65, hm⟩ := ob_some hm
        refine g_calli (As := [.int l1, .int l3]) (rest := [.int ((8 * l2) + (ar 37 ((9 * l1) + l3).toNatClampNeg)), .ref (ad 6)]) C hw (kX12_typeInside hc65) mtX12_typeInside lkX12_337 oM hl.1 rfl rfl (Nat.le_of_ble_eq_true rfl) ⟨Nat.le_of_ble_eq_true rfl, Nat.le_of_ble_eq_true rfl⟩ dX12_typeRecord_65 ⟨Nat.zero_le _, Nat.zero_le _⟩ (fun H locs hw => ?_)
        obtain ⟨hi, hm⟩ := it_a hm
        refine g_ast C hw sM_6 hi dX12_typeRecord_68 (fun H locs hw => ?_)
        refine lv_iinc (v := (l3 + 1)) (lv' := [(3, .int (l3 + 1)), (4, .int (ar 37 ((9 * l1) + l3).toNatClampNeg)), (0, .ref o), (1, .int l1), (2, .int l2)]) hx hb dX12_typeRecord_69 hl (k := 4) rfl (ii_ ci_1) (by decide) rfl (fun ls hl => ?_)
        refine lv_goto (tgt := 8) hx hb dX12_typeRecord_72 (by decide) ?_
        exact ih _ _ _ _ _ _ _ _ hm _ _ _ (lv_sub hl [2, 3, 4, 0] rfl) hw
def mX12_typeRecord (a1 : Int32) (iv : mI) (ar : mA) : Option (Int32 × mI × mA) := ob (mX12_more 5 iv ar) (fun r2 iv2 ar2 => mX12_typeRecord_L8 bigF a1 r2 0 iv2 ar2)
set_option maxRecDepth 100000 in
set_option maxHeartbeats 4000000 in
theorem kX12_typeRecord {a1 : Int32} {iv ivz : mI} {ar arz : mA} {rz : Int32} (hm : mX12_typeRecord a1 iv ar = some (rz, ivz, arz)) : Ct l D cI cJ yX12_typeRecord cX12_typeRecord 5 (some .int) 2 44 [.ref o, .int a1] (wM cI o ad iv ar) (wM cI o ad ivz arz) rz := by
  intro sz
  refine ct_of (by decide) (Nat.le_of_ble_eq_true rfl) ?_
  intro p e s m args below meth c C hw ls hl
  have hl : lv_has ls 5 [(0, .ref o), (1, .int a1)] := hl
  have hx := C.1.1
  have hb := C.1.2.1
  unfold mX12_typeRecord at hm
  refine lv_aload_n hx hb dX12_typeRecord_0 rfl (lv_at hl 0 rfl) ?_
  refine lv_iconst (v := 5) hx hb dX12_typeRecord_1 ci_5 ?_
  obtain ⟨r2, iv2, ar2, hc2, hm⟩ := ob_some hm
  refine g_calli (As := [.int 5]) (rest := []) C hw (kX12_more hc2) mtX12_more lkX12_340 oM hl.1 rfl rfl (Nat.le_of_ble_eq_true rfl) ⟨Nat.le_of_ble_eq_true rfl, Nat.le_of_ble_eq_true rfl⟩ dX12_typeRecord_2 ⟨Nat.zero_le _, Nat.zero_le _⟩ (fun H locs hw => ?_)
  refine lv_istore_n (lv' := [(2, .int r2), (0, .ref o), (1, .int a1)]) hx hb dX12_typeRecord_5 rfl hl (by decide) rfl (fun ls hl => ?_)
  refine lv_iconst (v := 0) hx hb dX12_typeRecord_6 ci_0 ?_
  refine lv_istore_n (lv' := [(3, .int 0), (2, .int r2), (0, .ref o), (1, .int a1)]) hx hb dX12_typeRecord_7 rfl hl (by decide) rfl (fun ls hl => ?_)
  exact wX12_typeRecord_L8 C bigF _ _ _ _ _ _ _ _ hm _ _ _ (lv_sub hl [2, 3, 1, 0] rfl) hw
def mX12_typeTaken_L119 : Nat → Int32 → Int32 → Int32 → mI → mA → Option (Int32 × mI × mA)
  | 0, _, _, _, _, _ => none
  | n + 1, l1, l4, l5, iv, ar => if l1 < 0 ∨ 200 ≤ l1.toNatClampNeg then none else if (ar 34 l1.toNatClampNeg) ≤ l5 then some (l4, iv, ar) else if (iv 24) = 0 then ob (mX12_typeInside l1 l5 iv ar) (fun r144 iv144 ar144 => ob (mX12_united l4 r144 iv144 ar144) (fun r147 iv147 ar147 => mX12_typeTaken_L119 n l1 r147 (l5 + 1) iv147 ar147)) else some (l4, iv, ar)
set_option maxRecDepth 100000 in
set_option maxHeartbeats 4000000 in
theorem wX12_typeTaken_L119 (C : mCx p s m args meth c RX12 cX12_typeTaken 6 (some .int) D cI cJ A) (n : Nat) : ∀ (l1 : Int32) (l4 : Int32) (l5 : Int32) (iv : mI) (ar : mA) (rz : Int32) (ivz : mI) (arz : mA), mX12_typeTaken_L119 n l1 l4 l5 iv ar = some (rz, ivz, arz) → ∀ (H : Heap) (locs : List Loc) (ls : Array Slot), lv_has ls 6 [(0, .ref o), (1, .int l1), (4, .int l4), (5, .int l5)] → inW D A s (wM cI o ad iv ar) H locs → W p l e (rmO 4 112) s m args below meth c H locs 0 0 (MQ below (ctQ D cI cJ (wM cI o ad ivz arz) A rz) args s 0 0 A) (F0 m 119 ls []) := by
  induction n with
  | zero =>
    intro l1 l4 l5 iv ar rz ivz arz hm H locs ls hl hw
    have hm : (none : Option (Int32 × mI × mA)) = some _ := hm
    cases hm
  | succ n ih =>
    intro l1 l4 l5 iv ar rz ivz arz hm H locs ls hl hw
    have hx := C.1.1
    have hb := C.1.2.1
    unfold mX12_typeTaken_L119 at hm
    refine lv_iload hx hb dX12_typeTaken_119 (lv_at hl 3 rfl) ?_
    refine lv_aload_n hx hb dX12_typeTaken_121 rfl (lv_at hl 0 rfl) ?_
    refine g_get C hw gM_34 dX12_typeTaken_122 ?_
    refine lv_iload_n hx hb dX12_typeTaken_125 rfl (lv_at hl 1 rfl) ?_
    obtain ⟨hi, hm⟩ := it_a hm
    refine g_ald C hw aM_34 hi dX12_typeTaken_126 ?_
    refine lv_icmp_ge (tgt := 158) hx hb dX12_typeTaken_127 (by decide) (fun hc => ?_) (fun hc => ?_)
    · have hm := it_t hc hm
      refine lv_iload hx hb dX12_typeTaken_158 (lv_at hl 2 rfl) ?_
      cases hm
      exact g_iret C hw dX12_typeTaken_160
    · have hm := it_f hc hm
      refine lv_aload_n hx hb dX12_typeTaken_130 rfl (lv_at hl 0 rfl) ?_
      refine g_get C hw gM_24 dX12_typeTaken_131 ?_
      refine lv_if_ne (tgt := 158) hx hb dX12_typeTaken_134 (by decide) (fun hc => ?_) (fun hc => ?_)
      · have hm := it_f hc hm
        refine lv_iload hx hb dX12_typeTaken_158 (lv_at hl 2 rfl) ?_
        cases hm
        exact g_iret C hw dX12_typeTaken_160
      · have hm := it_t hc hm
        refine lv_aload_n hx hb dX12_typeTaken_137 rfl (lv_at hl 0 rfl) ?_
        refine lv_iload hx hb dX12_typeTaken_138 (lv_at hl 2 rfl) ?_
        refine lv_aload_n hx hb dX12_typeTaken_140 rfl (lv_at hl 0 rfl) ?_
        refine lv_iload_n hx hb dX12_typeTaken_141 rfl (lv_at hl 1 rfl) ?_
        refine lv_iload hx hb dX12_typeTaken_142 (lv_at hl 3 rfl) ?_
        obtain ⟨r144, iv144, ar144, hc144, hm⟩ := ob_some hm
        refine g_calli (As := [.int l1, .int l5]) (rest := [.int l4, .ref o]) C hw (kX12_typeInside hc144) mtX12_typeInside lkX12_337 oM hl.1 rfl rfl (Nat.le_of_ble_eq_true rfl) ⟨Nat.le_of_ble_eq_true rfl, Nat.le_of_ble_eq_true rfl⟩ dX12_typeTaken_144 ⟨Nat.zero_le _, Nat.zero_le _⟩ (fun H locs hw => ?_)
        obtain ⟨r147, iv147, ar147, hc147, hm⟩ := ob_some hm
        refine g_calli (As := [.int l4, .int r144]) (rest := []) C hw (kX12_united hc147) mtX12_united lkX12_352 oM hl.1 rfl rfl (Nat.le_of_ble_eq_true rfl) ⟨Nat.le_of_ble_eq_true rfl, Nat.le_of_ble_eq_true rfl⟩ dX12_typeTaken_147 ⟨Nat.zero_le _, Nat.zero_le _⟩ (fun H locs hw => ?_)
        refine lv_istore (lv' := [(4, .int r147), (0, .ref o), (1, .int l1), (5, .int l5)]) hx hb dX12_typeTaken_150 hl (by decide) rfl (fun ls hl => ?_)
        refine lv_iinc (v := (l5 + 1)) (lv' := [(5, .int (l5 + 1)), (4, .int r147), (0, .ref o), (1, .int l1)]) hx hb dX12_typeTaken_152 hl (k := 3) rfl (ii_ ci_1) (by decide) rfl (fun ls hl => ?_)
        refine lv_goto (tgt := 119) hx hb dX12_typeTaken_155 (by decide) ?_
        exact ih _ _ _ _ _ _ _ _ hm _ _ _ (lv_sub hl [2, 3, 1, 0] rfl) hw
def mX12_typeTaken_J93 (l1 : Int32) (iv : mI) (ar : mA) : Option (Int32 × mI × mA) := if l1 < 0 ∨ 200 ≤ l1.toNatClampNeg then none else if (ar 34 l1.toNatClampNeg) = 0 then ob (mX12_more 1 iv ar) (fun r104 iv104 ar104 => some (r104, iv104, ar104)) else ob (mX12_typeInside l1 0 iv ar) (fun r111 iv111 ar111 => mX12_typeTaken_L119 bigF l1 r111 1 iv111 ar111)
set_option maxRecDepth 100000 in
set_option maxHeartbeats 4000000 in
theorem wX12_typeTaken_J93 (C : mCx p s m args meth c RX12 cX12_typeTaken 6 (some .int) D cI cJ A) : ∀ (l1 : Int32) (iv : mI) (ar : mA) (rz : Int32) (ivz : mI) (arz : mA), mX12_typeTaken_J93 l1 iv ar = some (rz, ivz, arz) → ∀ (H : Heap) (locs : List Loc) (ls : Array Slot), lv_has ls 6 [(0, .ref o), (1, .int l1)] → inW D A s (wM cI o ad iv ar) H locs → W p l e (rmO 4 112) s m args below meth c H locs 0 0 (MQ below (ctQ D cI cJ (wM cI o ad ivz arz) A rz) args s 0 0 A) (F0 m 93 ls []) := by
  intro l1 iv ar rz ivz arz hm H locs ls hl hw
  have hx := C.1.1
  have hb := C.1.2.1
  unfold mX12_typeTaken_J93 at hm
  refine lv_aload_n hx hb dX12_typeTaken_93 rfl (lv_at hl 0 rfl) ?_
  refine g_get C hw gM_34 dX12_typeTaken_94 ?_
  refine lv_iload_n hx hb dX12_typeTaken_97 rfl (lv_at hl 1 rfl) ?_
  obtain ⟨hi, hm⟩ := it_a hm
  refine g_ald C hw aM_34 hi dX12_typeTaken_98 ?_
  refine lv_if_ne (tgt := 108) hx hb dX12_typeTaken_99 (by decide) (fun hc => ?_) (fun hc => ?_)
  · have hm := it_f hc hm
    refine lv_aload_n hx hb dX12_typeTaken_108 rfl (lv_at hl 0 rfl) ?_
    refine lv_iload_n hx hb dX12_typeTaken_109 rfl (lv_at hl 1 rfl) ?_
    refine lv_iconst (v := 0) hx hb dX12_typeTaken_110 ci_0 ?_
    obtain ⟨r111, iv111, ar111, hc111, hm⟩ := ob_some hm
    refine g_calli (As := [.int l1, .int 0]) (rest := []) C hw (kX12_typeInside hc111) mtX12_typeInside lkX12_337 oM hl.1 rfl rfl (Nat.le_of_ble_eq_true rfl) ⟨Nat.le_of_ble_eq_true rfl, Nat.le_of_ble_eq_true rfl⟩ dX12_typeTaken_111 ⟨Nat.zero_le _, Nat.zero_le _⟩ (fun H locs hw => ?_)
    refine lv_istore (lv' := [(4, .int r111), (0, .ref o), (1, .int l1)]) hx hb dX12_typeTaken_114 hl (by decide) rfl (fun ls hl => ?_)
    refine lv_iconst (v := 1) hx hb dX12_typeTaken_116 ci_1 ?_
    refine lv_istore (lv' := [(5, .int 1), (4, .int r111), (0, .ref o), (1, .int l1)]) hx hb dX12_typeTaken_117 hl (by decide) rfl (fun ls hl => ?_)
    exact wX12_typeTaken_L119 C bigF _ _ _ _ _ _ _ _ hm _ _ _ (lv_sub hl [2, 3, 1, 0] rfl) hw
  · have hm := it_t hc hm
    refine lv_aload_n hx hb dX12_typeTaken_102 rfl (lv_at hl 0 rfl) ?_
    refine lv_iconst (v := 1) hx hb dX12_typeTaken_103 ci_1 ?_
    obtain ⟨r104, iv104, ar104, hc104, hm⟩ := ob_some hm
    refine g_calli (As := [.int 1]) (rest := []) C hw (kX12_more hc104) mtX12_more lkX12_340 oM hl.1 rfl rfl (Nat.le_of_ble_eq_true rfl) ⟨Nat.le_of_ble_eq_true rfl, Nat.le_of_ble_eq_true rfl⟩ dX12_typeTaken_104 ⟨Nat.zero_le _, Nat.zero_le _⟩ (fun H locs hw => ?_)
    cases hm
    exact g_iret C hw dX12_typeTaken_107
def mX12_typeTaken_L19 : Nat → Int32 → Int32 → Int32 → Int32 → mI → mA → Option (Int32 × mI × mA)
  | 0, _, _, _, _, _, _ => none
  | n + 1, l1, l2, l3, l4, iv, ar => if l1 < 0 ∨ 200 ≤ l1.toNatClampNeg then none else if (ar 34 l1.toNatClampNeg) ≤ l4 then if l2 < 0 ∨ 400 ≤ l2.toNatClampNeg then none else if (ar 4 l2.toNatClampNeg) = 1 then mX12_typeTaken_J93 l1 iv ar else if l2 < 0 ∨ 400 ≤ l2.toNatClampNeg then none else if (ar 4 l2.toNatClampNeg) = 6 then if l2 < 0 ∨ 400 ≤ l2.toNatClampNeg then none else if ((ar 5 l2.toNatClampNeg) &&& (l3 ^^^ (-1))) = 0 then mX12_typeTaken_J93 l1 iv ar else ob (mX12_misfit l1 iv ar) (fun r89 iv89 ar89 => some (r89, iv89, ar89)) else ob (mX12_misfit l1 iv ar) (fun r89 iv89 ar89 => some (r89, iv89, ar89)) else if ((9 * l1) + l4) < 0 ∨ 1800 ≤ ((9 * l1) + l4).toNatClampNeg then none else mX12_typeTaken_L19 n l1 l2 (l3 ||| (1 <<< ((ar 37 ((9 * l1) + l4).toNatClampNeg) &&& 31))) (l4 + 1) iv ar
set_option maxRecDepth 100000 in
set_option maxHeartbeats 4000000 in
theorem wX12_typeTaken_L19 (C : mCx p s m args meth c RX12 cX12_typeTaken 6 (some .int) D cI cJ A) (n : Nat) : ∀ (l1 : Int32) (l2 : Int32) (l3 : Int32) (l4 : Int32) (iv : mI) (ar : mA) (rz : Int32) (ivz : mI) (arz : mA), mX12_typeTaken_L19 n l1 l2 l3 l4 iv ar = some (rz, ivz, arz) → ∀ (H : Heap) (locs : List Loc) (ls : Array Slot), lv_has ls 6 [(0, .ref o), (1, .int l1), (2, .int l2), (3, .int l3), (4, .int l4)] → inW D A s (wM cI o ad iv ar) H locs → W p l e (rmO 4 112) s m args below meth c H locs 0 0 (MQ below (ctQ D cI cJ (wM cI o ad ivz arz) A rz) args s 0 0 A) (F0 m 19 ls []) := by
  induction n with
  | zero =>
    intro l1 l2 l3 l4 iv ar rz ivz arz hm H locs ls hl hw
    have hm : (none : Option (Int32 × mI × mA)) = some _ := hm
    cases hm
  | succ n ih =>
    intro l1 l2 l3 l4 iv ar rz ivz arz hm H locs ls hl hw
    have hx := C.1.1
    have hb := C.1.2.1
    unfold mX12_typeTaken_L19 at hm
    refine lv_iload hx hb dX12_typeTaken_19 (lv_at hl 4 rfl) ?_
    refine lv_aload_n hx hb dX12_typeTaken_21 rfl (lv_at hl 0 rfl) ?_
    refine g_get C hw gM_34 dX12_typeTaken_22 ?_
    refine lv_iload_n hx hb dX12_typeTaken_25 rfl (lv_at hl 1 rfl) ?_
    obtain ⟨hi, hm⟩ := it_a hm
    refine g_ald C hw aM_34 hi dX12_typeTaken_26 ?_
    refine lv_icmp_ge (tgt := 53) hx hb dX12_typeTaken_27 (by decide) (fun hc => ?_) (fun hc => ?_)
    · have hm := it_t hc hm
      refine lv_aload_n hx hb dX12_typeTaken_53 rfl (lv_at hl 0 rfl) ?_
      refine g_get C hw gM_4 dX12_typeTaken_54 ?_
      refine lv_iload_n hx hb dX12_typeTaken_57 rfl (lv_at hl 2 rfl) ?_
      obtain ⟨hi, hm⟩ := it_a hm
      refine g_ald C hw aM_4 hi dX12_typeTaken_58 ?_
      refine lv_iconst (v := 1) hx hb dX12_typeTaken_59 ci_1 ?_
      refine lv_icmp_eq (tgt := 93) hx hb dX12_typeTaken_60 (by decide) (fun hc => ?_) (fun hc => ?_)
      · have hm := it_t hc hm
        exact wX12_typeTaken_J93 C _ _ _ _ _ _ hm _ _ _ (lv_sub hl [0, 1] rfl) hw
      · have hm := it_f hc hm
        refine lv_aload_n hx hb dX12_typeTaken_63 rfl (lv_at hl 0 rfl) ?_
        refine g_get C hw gM_4 dX12_typeTaken_64 ?_
        refine lv_iload_n hx hb dX12_typeTaken_67 rfl (lv_at hl 2 rfl) ?_
        obtain ⟨hi, hm⟩ := it_a hm
        refine g_ald C hw aM_4 hi dX12_typeTaken_68 ?_
        refine lv_bipush (v := 6) hx hb dX12_typeTaken_69 cb_6 ?_
        refine lv_icmp_ne (tgt := 87) hx hb dX12_typeTaken_71 (by decide) (fun hc => ?_) (fun hc => ?_)
        · have hm := it_f hc hm
          refine lv_aload_n hx hb dX12_typeTaken_87 rfl (lv_at hl 0 rfl) ?_
          refine lv_iload_n hx hb dX12_typeTaken_88 rfl (lv_at hl 1 rfl) ?_
          obtain ⟨r89, iv89, ar89, hc89, hm⟩ := ob_some hm
          refine g_calli (As := [.int l1]) (rest := []) C hw (kX12_misfit hc89) mtX12_misfit lkX12_349 oM hl.1 rfl rfl (Nat.le_of_ble_eq_true rfl) ⟨Nat.le_of_ble_eq_true rfl, Nat.le_of_ble_eq_true rfl⟩ dX12_typeTaken_89 ⟨Nat.zero_le _, Nat.zero_le _⟩ (fun H locs hw => ?_)
          cases hm
          exact g_iret C hw dX12_typeTaken_92
        · have hm := it_t hc hm
          refine lv_aload_n hx hb dX12_typeTaken_74 rfl (lv_at hl 0 rfl) ?_
          refine g_get C hw gM_5 dX12_typeTaken_75 ?_
          refine lv_iload_n hx hb dX12_typeTaken_78 rfl (lv_at hl 2 rfl) ?_
          obtain ⟨hi, hm⟩ := it_a hm
          refine g_ald C hw aM_5 hi dX12_typeTaken_79 ?_
          refine lv_iload_n hx hb dX12_typeTaken_80 rfl (lv_at hl 3 rfl) ?_
          refine lv_iconst (v := (-1)) hx hb dX12_typeTaken_81 ci_m1 ?_
          refine lv_ixor hx hb dX12_typeTaken_82 ?_
          refine lv_iand hx hb dX12_typeTaken_83 ?_
          refine lv_if_eq (tgt := 93) hx hb dX12_typeTaken_84 (by decide) (fun hc => ?_) (fun hc => ?_)
          · have hm := it_t hc hm
            exact wX12_typeTaken_J93 C _ _ _ _ _ _ hm _ _ _ (lv_sub hl [0, 1] rfl) hw
          · have hm := it_f hc hm
            refine lv_aload_n hx hb dX12_typeTaken_87 rfl (lv_at hl 0 rfl) ?_
            refine lv_iload_n hx hb dX12_typeTaken_88 rfl (lv_at hl 1 rfl) ?_
            obtain ⟨r89, iv89, ar89, hc89, hm⟩ := ob_some hm
            refine g_calli (As := [.int l1]) (rest := []) C hw (kX12_misfit hc89) mtX12_misfit lkX12_349 oM hl.1 rfl rfl (Nat.le_of_ble_eq_true rfl) ⟨Nat.le_of_ble_eq_true rfl, Nat.le_of_ble_eq_true rfl⟩ dX12_typeTaken_89 ⟨Nat.zero_le _, Nat.zero_le _⟩ (fun H locs hw => ?_)
            cases hm
            exact g_iret C hw dX12_typeTaken_92
    · have hm := it_f hc hm
      refine lv_iload_n hx hb dX12_typeTaken_30 rfl (lv_at hl 3 rfl) ?_
      refine lv_iconst (v := 1) hx hb dX12_typeTaken_31 ci_1 ?_
      refine lv_aload_n hx hb dX12_typeTaken_32 rfl (lv_at hl 0 rfl) ?_
      refine g_get C hw gM_37 dX12_typeTaken_33 ?_
      refine lv_bipush (v := 9) hx hb dX12_typeTaken_36 cb_9 ?_
      refine lv_iload_n hx hb dX12_typeTaken_38 rfl (lv_at hl 1 rfl) ?_
      refine lv_imul hx hb dX12_typeTaken_39 ?_
      refine lv_iload hx hb dX12_typeTaken_40 (lv_at hl 4 rfl) ?_
      refine lv_iadd hx hb dX12_typeTaken_42 ?_
      obtain ⟨hi, hm⟩ := it_a hm
      refine g_ald C hw aM_37 hi dX12_typeTaken_43 ?_
      refine lv_ishl hx hb dX12_typeTaken_44 ?_
      refine lv_ior hx hb dX12_typeTaken_45 ?_
      refine lv_istore_n (lv' := [(3, .int (l3 ||| (1 <<< ((ar 37 ((9 * l1) + l4).toNatClampNeg) &&& 31)))), (0, .ref o), (1, .int l1), (2, .int l2), (4, .int l4)]) hx hb dX12_typeTaken_46 rfl hl (by decide) rfl (fun ls hl => ?_)
      refine lv_iinc (v := (l4 + 1)) (lv' := [(4, .int (l4 + 1)), (3, .int (l3 ||| (1 <<< ((ar 37 ((9 * l1) + l4).toNatClampNeg) &&& 31)))), (0, .ref o), (1, .int l1), (2, .int l2)]) hx hb dX12_typeTaken_47 hl (k := 4) rfl (ii_ ci_1) (by decide) rfl (fun ls hl => ?_)
      refine lv_goto (tgt := 19) hx hb dX12_typeTaken_50 (by decide) ?_
      exact ih _ _ _ _ _ _ _ _ _ hm _ _ _ (lv_sub hl [2, 3, 4, 1, 0] rfl) hw
def mX12_typeTaken (a1 : Int32) (iv : mI) (ar : mA) : Option (Int32 × mI × mA) := if a1 < 0 ∨ 200 ≤ a1.toNatClampNeg then none else ob (mX12_typeInside a1 ((ar 38 a1.toNatClampNeg) - 1) iv ar) (fun r10 iv10 ar10 => mX12_typeTaken_L19 bigF a1 r10 0 0 iv10 ar10)
set_option maxRecDepth 100000 in
set_option maxHeartbeats 4000000 in
theorem kX12_typeTaken {a1 : Int32} {iv ivz : mI} {ar arz : mA} {rz : Int32} (hm : mX12_typeTaken a1 iv ar = some (rz, ivz, arz)) : Ct l D cI cJ yX12_typeTaken cX12_typeTaken 6 (some .int) 4 112 [.ref o, .int a1] (wM cI o ad iv ar) (wM cI o ad ivz arz) rz := by
  intro sz
  refine ct_of (by decide) (Nat.le_of_ble_eq_true rfl) ?_
  intro p e s m args below meth c C hw ls hl
  have hl : lv_has ls 6 [(0, .ref o), (1, .int a1)] := hl
  have hx := C.1.1
  have hb := C.1.2.1
  unfold mX12_typeTaken at hm
  refine lv_aload_n hx hb dX12_typeTaken_0 rfl (lv_at hl 0 rfl) ?_
  refine lv_iload_n hx hb dX12_typeTaken_1 rfl (lv_at hl 1 rfl) ?_
  refine lv_aload_n hx hb dX12_typeTaken_2 rfl (lv_at hl 0 rfl) ?_
  refine g_get C hw gM_38 dX12_typeTaken_3 ?_
  refine lv_iload_n hx hb dX12_typeTaken_6 rfl (lv_at hl 1 rfl) ?_
  obtain ⟨hi, hm⟩ := it_a hm
  refine g_ald C hw aM_38 hi dX12_typeTaken_7 ?_
  refine lv_iconst (v := 1) hx hb dX12_typeTaken_8 ci_1 ?_
  refine lv_isub hx hb dX12_typeTaken_9 ?_
  obtain ⟨r10, iv10, ar10, hc10, hm⟩ := ob_some hm
  refine g_calli (As := [.int a1, .int ((ar 38 a1.toNatClampNeg) - 1)]) (rest := []) C hw (kX12_typeInside hc10) mtX12_typeInside lkX12_337 oM hl.1 rfl rfl (Nat.le_of_ble_eq_true rfl) ⟨Nat.le_of_ble_eq_true rfl, Nat.le_of_ble_eq_true rfl⟩ dX12_typeTaken_10 ⟨Nat.zero_le _, Nat.zero_le _⟩ (fun H locs hw => ?_)
  refine lv_istore_n (lv' := [(2, .int r10), (0, .ref o), (1, .int a1)]) hx hb dX12_typeTaken_13 rfl hl (by decide) rfl (fun ls hl => ?_)
  refine lv_iconst (v := 0) hx hb dX12_typeTaken_14 ci_0 ?_
  refine lv_istore_n (lv' := [(3, .int 0), (2, .int r10), (0, .ref o), (1, .int a1)]) hx hb dX12_typeTaken_15 rfl hl (by decide) rfl (fun ls hl => ?_)
  refine lv_iconst (v := 0) hx hb dX12_typeTaken_16 ci_0 ?_
  refine lv_istore (lv' := [(4, .int 0), (3, .int 0), (2, .int r10), (0, .ref o), (1, .int a1)]) hx hb dX12_typeTaken_17 hl (by decide) rfl (fun ls hl => ?_)
  exact wX12_typeTaken_L19 C bigF _ _ _ _ _ _ _ _ _ hm _ _ _ (lv_sub hl [3, 4, 2, 1, 0] rfl) hw
def mX12_typeDone_J339 (l1 : Int32) (l3 : Int32) (s0 : Int32) (iv : mI) (ar : mA) : Option (Int32 × mI × mA) := if l3 < 0 ∨ 400 ≤ l3.toNatClampNeg then none else if (ar 4 l3.toNatClampNeg) = 1 then some (l3, iv, ar) else if s0 = 0 then ob (mX12_misfit l1 iv ar) (fun r376 iv376 ar376 => some (r376, iv376, ar376)) else if l1 < 0 ∨ 200 ≤ l1.toNatClampNeg then none else ob (mX12_part l3 (ar 35 l1.toNatClampNeg) iv ar) (fun r368 iv368 ar368 => some (r368, iv368, ar368))
set_option maxRecDepth 100000 in
set_option maxHeartbeats 4000000 in
theorem wX12_typeDone_J339 (C : mCx p s m args meth c RX12 cX12_typeDone 5 (some .int) D cI cJ A) : ∀ (l1 : Int32) (l3 : Int32) (s0 : Int32) (iv : mI) (ar : mA) (rz : Int32) (ivz : mI) (arz : mA), mX12_typeDone_J339 l1 l3 s0 iv ar = some (rz, ivz, arz) → ∀ (H : Heap) (locs : List Loc) (ls : Array Slot), lv_has ls 5 [(0, .ref o), (1, .int l1), (3, .int l3)] → inW D A s (wM cI o ad iv ar) H locs → W p l e (rmO 7 167) s m args below meth c H locs 0 0 (MQ below (ctQ D cI cJ (wM cI o ad ivz arz) A rz) args s 0 0 A) (F0 m 339 ls [.int s0]) := by
  intro l1 l3 s0 iv ar rz ivz arz hm H locs ls hl hw
  have hx := C.1.1
  have hb := C.1.2.1
  unfold mX12_typeDone_J339 at hm
  refine lv_istore (lv' := [(4, .int s0), (0, .ref o), (1, .int l1), (3, .int l3)]) hx hb dX12_typeDone_339 hl (by decide) rfl (fun ls hl => ?_)
  refine lv_aload_n hx hb dX12_typeDone_341 rfl (lv_at hl 1 rfl) ?_
  refine g_get C hw gM_4 dX12_typeDone_342 ?_
  refine lv_iload_n hx hb dX12_typeDone_345 rfl (lv_at hl 3 rfl) ?_
  obtain ⟨hi, hm⟩ := it_a hm
  refine g_ald C hw aM_4 hi dX12_typeDone_346 ?_
  refine lv_iconst (v := 1) hx hb dX12_typeDone_347 ci_1 ?_
  refine lv_icmp_ne (tgt := 355) hx hb dX12_typeDone_348 (by decide) (fun hc => ?_) (fun hc => ?_)
  · have hm := it_f hc hm
    refine lv_iload hx hb dX12_typeDone_355 (lv_at hl 0 rfl) ?_
    refine lv_if_eq (tgt := 374) hx hb dX12_typeDone_357 (by decide) (fun hc => ?_) (fun hc => ?_)
    · have hm := it_t hc hm
      refine lv_aload_n hx hb dX12_typeDone_374 rfl (lv_at hl 1 rfl) ?_
      refine lv_iload_n hx hb dX12_typeDone_375 rfl (lv_at hl 2 rfl) ?_
      obtain ⟨r376, iv376, ar376, hc376, hm⟩ := ob_some hm
      refine g_calli (As := [.int l1]) (rest := []) C hw (kX12_misfit hc376) mtX12_misfit lkX12_349 oM hl.1 rfl rfl (Nat.le_of_ble_eq_true rfl) ⟨Nat.le_of_ble_eq_true rfl, Nat.le_of_ble_eq_true rfl⟩ dX12_typeDone_376 ⟨Nat.zero_le _, Nat.zero_le _⟩ (fun H locs hw => ?_)
      cases hm
      exact g_iret C hw dX12_typeDone_379
    · have hm := it_f hc hm
      refine lv_aload_n hx hb dX12_typeDone_360 rfl (lv_at hl 1 rfl) ?_
      refine lv_iload_n hx hb dX12_typeDone_361 rfl (lv_at hl 3 rfl) ?_
      refine lv_aload_n hx hb dX12_typeDone_362 rfl (lv_at hl 1 rfl) ?_
      refine g_get C hw gM_35 dX12_typeDone_363 ?_
      refine lv_iload_n hx hb dX12_typeDone_366 rfl (lv_at hl 2 rfl) ?_
      obtain ⟨hi, hm⟩ := it_a hm
      refine g_ald C hw aM_35 hi dX12_typeDone_367 ?_
      obtain ⟨r368, iv368, ar368, hc368, hm⟩ := ob_some hm
      refine g_calli (As := [.int l3, .int (ar 35 l1.toNatClampNeg)]) (rest := []) C hw (kX12_part hc368) mtX12_part lkX12_242 oM hl.1 rfl rfl (Nat.le_of_ble_eq_true rfl) ⟨Nat.le_of_ble_eq_true rfl, Nat.le_of_ble_eq_true rfl⟩ dX12_typeDone_368 ⟨Nat.zero_le _, Nat.zero_le _⟩ (fun H locs hw => ?_)
      refine lv_goto (tgt := 379) hx hb dX12_typeDone_371 (by decide) ?_
      cases hm
      exact g_iret C hw dX12_typeDone_379
  · have hm := it_t hc hm
    refine lv_iload_n hx hb dX12_typeDone_351 rfl (lv_at hl 3 rfl) ?_
    refine lv_goto (tgt := 379) hx hb dX12_typeDone_352 (by decide) ?_
    cases hm
    exact g_iret C hw dX12_typeDone_379
def mX12_typeDone_J213 (l1 : Int32) (s0 : Int32) (iv : mI) (ar : mA) : Option (Int32 × mI × mA) := if s0 = 0 then ob (mX12_misfit l1 iv ar) (fun r243 iv243 ar243 => some (r243, iv243, ar243)) else if l1 < 0 ∨ 200 ≤ l1.toNatClampNeg then none else if (ar 32 l1.toNatClampNeg) = 24 then ob (mX12_more 2 iv ar) (fun r235 iv235 ar235 => some (r235, iv235, ar235)) else ob (mX12_more 3 iv ar) (fun r235 iv235 ar235 => some (r235, iv235, ar235))
set_option maxRecDepth 100000 in
set_option maxHeartbeats 4000000 in
theorem wX12_typeDone_J213 (C : mCx p s m args meth c RX12 cX12_typeDone 5 (some .int) D cI cJ A) : ∀ (l1 : Int32) (s0 : Int32) (iv : mI) (ar : mA) (rz : Int32) (ivz : mI) (arz : mA), mX12_typeDone_J213 l1 s0 iv ar = some (rz, ivz, arz) → ∀ (H : Heap) (locs : List Loc) (ls : Array Slot), lv_has ls 5 [(0, .ref o), (1, .int l1)] → inW D A s (wM cI o ad iv ar) H locs → W p l e (rmO 7 167) s m args below meth c H locs 0 0 (MQ below (ctQ D cI cJ (wM cI o ad ivz arz) A rz) args s 0 0 A) (F0 m 213 ls [.int s0]) := by
  intro l1 s0 iv ar rz ivz arz hm H locs ls hl hw
  have hx := C.1.1
  have hb := C.1.2.1
  unfold mX12_typeDone_J213 at hm
  refine lv_istore_n (lv' := [(3, .int s0), (0, .ref o), (1, .int l1)]) hx hb dX12_typeDone_213 rfl hl (by decide) rfl (fun ls hl => ?_)
  refine lv_iload_n hx hb dX12_typeDone_214 rfl (lv_at hl 0 rfl) ?_
  refine lv_if_eq (tgt := 241) hx hb dX12_typeDone_215 (by decide) (fun hc => ?_) (fun hc => ?_)
  · have hm := it_t hc hm
    refine lv_aload_n hx hb dX12_typeDone_241 rfl (lv_at hl 1 rfl) ?_
    refine lv_iload_n hx hb dX12_typeDone_242 rfl (lv_at hl 2 rfl) ?_
    obtain ⟨r243, iv243, ar243, hc243, hm⟩ := ob_some hm
    refine g_calli (As := [.int l1]) (rest := []) C hw (kX12_misfit hc243) mtX12_misfit lkX12_349 oM hl.1 rfl rfl (Nat.le_of_ble_eq_true rfl) ⟨Nat.le_of_ble_eq_true rfl, Nat.le_of_ble_eq_true rfl⟩ dX12_typeDone_243 ⟨Nat.zero_le _, Nat.zero_le _⟩ (fun H locs hw => ?_)
    cases hm
    exact g_iret C hw dX12_typeDone_246
  · have hm := it_f hc hm
    refine lv_aload_n hx hb dX12_typeDone_218 rfl (lv_at hl 1 rfl) ?_
    refine lv_aload_n hx hb dX12_typeDone_219 rfl (lv_at hl 1 rfl) ?_
    refine g_get C hw gM_32 dX12_typeDone_220 ?_
    refine lv_iload_n hx hb dX12_typeDone_223 rfl (lv_at hl 2 rfl) ?_
    obtain ⟨hi, hm⟩ := it_a hm
    refine g_ald C hw aM_32 hi dX12_typeDone_224 ?_
    refine lv_bipush (v := 24) hx hb dX12_typeDone_225 cb_24 ?_
    refine lv_icmp_ne (tgt := 234) hx hb dX12_typeDone_227 (by decide) (fun hc => ?_) (fun hc => ?_)
    · have hm := it_f hc hm
      refine lv_iconst (v := 3) hx hb dX12_typeDone_234 ci_3 ?_
      obtain ⟨r235, iv235, ar235, hc235, hm⟩ := ob_some hm
      refine g_calli (As := [.int 3]) (rest := []) C hw (kX12_more hc235) mtX12_more lkX12_340 oM hl.1 rfl rfl (Nat.le_of_ble_eq_true rfl) ⟨Nat.le_of_ble_eq_true rfl, Nat.le_of_ble_eq_true rfl⟩ dX12_typeDone_235 ⟨Nat.zero_le _, Nat.zero_le _⟩ (fun H locs hw => ?_)
      refine lv_goto (tgt := 246) hx hb dX12_typeDone_238 (by decide) ?_
      cases hm
      exact g_iret C hw dX12_typeDone_246
    · have hm := it_t hc hm
      refine lv_iconst (v := 2) hx hb dX12_typeDone_230 ci_2 ?_
      refine lv_goto (tgt := 235) hx hb dX12_typeDone_231 (by decide) ?_
      obtain ⟨r235, iv235, ar235, hc235, hm⟩ := ob_some hm
      refine g_calli (As := [.int 2]) (rest := []) C hw (kX12_more hc235) mtX12_more lkX12_340 oM hl.1 rfl rfl (Nat.le_of_ble_eq_true rfl) ⟨Nat.le_of_ble_eq_true rfl, Nat.le_of_ble_eq_true rfl⟩ dX12_typeDone_235 ⟨Nat.zero_le _, Nat.zero_le _⟩ (fun H locs hw => ?_)
      refine lv_goto (tgt := 246) hx hb dX12_typeDone_238 (by decide) ?_
      cases hm
      exact g_iret C hw dX12_typeDone_246
def mX12_typeDone_J127 (l1 : Int32) (l3 : Int32) (s0 : Int32) (s1 : Int32) (iv : mI) (ar : mA) : Option (Int32 × mI × mA) := if s1 < 0 ∨ 3200 ≤ s1.toNatClampNeg then none else if (iv 24) = 0 then ob (mX12_typeInside l1 0 iv (au ar 6 s1.toNatClampNeg s0)) (fun r148 iv148 ar148 => if ((8 * l3) + 1) < 0 ∨ 3200 ≤ ((8 * l3) + 1).toNatClampNeg then none else some (l3, iv148, au ar148 6 ((8 * l3) + 1).toNatClampNeg r148)) else if ((8 * l3) + 1) < 0 ∨ 3200 ≤ ((8 * l3) + 1).toNatClampNeg then none else if ((8 * l3) + 1) < 0 ∨ 3200 ≤ ((8 * l3) + 1).toNatClampNeg then none else some (l3, iv, au (au ar 6 s1.toNatClampNeg s0) 6 ((8 * l3) + 1).toNatClampNeg ((au ar 6 s1.toNatClampNeg s0) 6 ((8 * l3) + 1).toNatClampNeg))
set_option maxRecDepth 100000 in
set_option maxHeartbeats 4000000 in
theorem wX12_typeDone_J127 (C : mCx p s m args meth c RX12 cX12_typeDone 5 (some .int) D cI cJ A) : ∀ (l1 : Int32) (l3 : Int32) (s0 : Int32) (s1 : Int32) (iv : mI) (ar : mA) (rz : Int32) (ivz : mI) (arz : mA), mX12_typeDone_J127 l1 l3 s0 s1 iv ar = some (rz, ivz, arz) → ∀ (H : Heap) (locs : List Loc) (ls : Array Slot), lv_has ls 5 [(0, .ref o), (1, .int l1), (3, .int l3)] → inW D A s (wM cI o ad iv ar) H locs → W p l e (rmO 7 167) s m args below meth c H locs 0 0 (MQ below (ctQ D cI cJ (wM cI o ad ivz arz) A rz) args s 0 0 A) (F0 m 127 ls [.int s0, .int s1, .ref (ad 6)]) := by
  intro l1 l3 s0 s1 iv ar rz ivz arz hm H locs ls hl hw
  have hx := C.1.1
  have hb := C.1.2.1
  unfold mX12_typeDone_J127 at hm
  obtain ⟨hi, hm⟩ := it_a hm
  refine g_ast C hw sM_6 hi dX12_typeDone_127 (fun H locs hw => ?_)
  refine lv_aload_n hx hb dX12_typeDone_128 rfl (lv_at hl 0 rfl) ?_
  refine g_get C hw gM_6 dX12_typeDone_129 ?_
  refine lv_bipush (v := 8) hx hb dX12_typeDone_132 cb_8 ?_
  refine lv_iload_n hx hb dX12_typeDone_134 rfl (lv_at hl 2 rfl) ?_
  refine lv_imul hx hb dX12_typeDone_135 ?_
  refine lv_iconst (v := 1) hx hb dX12_typeDone_136 ci_1 ?_
  refine lv_iadd hx hb dX12_typeDone_137 ?_
  refine lv_aload_n hx hb dX12_typeDone_138 rfl (lv_at hl 0 rfl) ?_
  refine g_get C hw gM_24 dX12_typeDone_139 ?_
  refine lv_if_ne (tgt := 154) hx hb dX12_typeDone_142 (by decide) (fun hc => ?_) (fun hc => ?_)
  · have hm := it_f hc hm
    refine lv_aload_n hx hb dX12_typeDone_154 rfl (lv_at hl 0 rfl) ?_
    refine g_get C hw gM_6 dX12_typeDone_155 ?_
    refine lv_bipush (v := 8) hx hb dX12_typeDone_158 cb_8 ?_
    refine lv_iload_n hx hb dX12_typeDone_160 rfl (lv_at hl 2 rfl) ?_
    refine lv_imul hx hb dX12_typeDone_161 ?_
    refine lv_iconst (v := 1) hx hb dX12_typeDone_162 ci_1 ?_
    refine lv_iadd hx hb dX12_typeDone_163 ?_
    obtain ⟨hi, hm⟩ := it_a hm
    refine g_ald C hw aM_6 hi dX12_typeDone_164 ?_
    obtain ⟨hi, hm⟩ := it_a hm
    refine g_ast C hw sM_6 hi dX12_typeDone_165 (fun H locs hw => ?_)
    refine lv_iload_n hx hb dX12_typeDone_166 rfl (lv_at hl 2 rfl) ?_
    cases hm
    exact g_iret C hw dX12_typeDone_167
  · have hm := it_t hc hm
    refine lv_aload_n hx hb dX12_typeDone_145 rfl (lv_at hl 0 rfl) ?_
    refine lv_iload_n hx hb dX12_typeDone_146 rfl (lv_at hl 1 rfl) ?_
    refine lv_iconst (v := 0) hx hb dX12_typeDone_147 ci_0 ?_
    obtain ⟨r148, iv148, ar148, hc148, hm⟩ := ob_some hm
    refine g_calli (As := [.int l1, .int 0]) (rest := [.int ((8 * l3) + 1), .ref (ad 6)]) C hw (kX12_typeInside hc148) mtX12_typeInside lkX12_337 oM hl.1 rfl rfl (Nat.le_of_ble_eq_true rfl) ⟨Nat.le_of_ble_eq_true rfl, Nat.le_of_ble_eq_true rfl⟩ dX12_typeDone_148 ⟨Nat.zero_le _, Nat.zero_le _⟩ (fun H locs hw => ?_)
    refine lv_goto (tgt := 165) hx hb dX12_typeDone_151 (by decide) ?_
    obtain ⟨hi, hm⟩ := it_a hm
    refine g_ast C hw sM_6 hi dX12_typeDone_165 (fun H locs hw => ?_)
    refine lv_iload_n hx hb dX12_typeDone_166 rfl (lv_at hl 2 rfl) ?_
    cases hm
    exact g_iret C hw dX12_typeDone_167
def mX12_typeDone (a1 : Int32) (a2 : Int32) (iv : mI) (ar : mA) : Option (Int32 × mI × mA) := if a1 < 0 ∨ 200 ≤ a1.toNatClampNeg then none else if (ar 32 a1.toNatClampNeg) = 20 then if a1 < 0 ∨ 200 ≤ a1.toNatClampNeg then none else if ((a2 - 1) - (ar 34 a1.toNatClampNeg)) < 0 ∨ 220 ≤ ((a2 - 1) - (ar 34 a1.toNatClampNeg)).toNatClampNeg then none else some ((ar 55 ((a2 - 1) - (ar 34 a1.toNatClampNeg)).toNatClampNeg), iv, ar) else if (ar 32 a1.toNatClampNeg) = 21 then ob (mX12_more 4 iv ar) (fun r90 iv90 ar90 => if (iv90 24) = 0 then if a1 < 0 ∨ 200 ≤ a1.toNatClampNeg then none else mX12_typeDone_J127 a1 r90 (ar90 34 a1.toNatClampNeg) (8 * r90) iv90 ar90 else if (8 * r90) < 0 ∨ 3200 ≤ (8 * r90).toNatClampNeg then none else mX12_typeDone_J127 a1 r90 (ar90 6 (8 * r90).toNatClampNeg) (8 * r90) iv90 ar90) else if (ar 32 a1.toNatClampNeg) = 22 then ob (mX12_typeApplied a1 iv ar) (fun r170 iv170 ar170 => some (r170, iv170, ar170)) else if (ar 32 a1.toNatClampNeg) = 23 then ob (mX12_more 2 iv ar) (fun r176 iv176 ar176 => some (r176, iv176, ar176)) else if (ar 32 a1.toNatClampNeg) = 24 then ob (mX12_typeInside a1 0 iv ar) (fun r184 iv184 ar184 => ob (mX12_isKind r184 2 iv184 ar184) (fun r188 iv188 ar188 => if r188 = 0 then mX12_typeDone_J213 a1 0 iv188 ar188 else ob (mX12_typeInside a1 1 iv188 ar188) (fun r198 iv198 ar198 => ob (mX12_isKind r198 2 iv198 ar198) (fun r202 iv202 ar202 => if r202 = 0 then mX12_typeDone_J213 a1 0 iv202 ar202 else mX12_typeDone_J213 a1 1 iv202 ar202)))) else if (ar 32 a1.toNatClampNeg) = 25 then ob (mX12_typeInside a1 0 iv ar) (fun r184 iv184 ar184 => ob (mX12_isKind r184 2 iv184 ar184) (fun r188 iv188 ar188 => if r188 = 0 then mX12_typeDone_J213 a1 0 iv188 ar188 else ob (mX12_typeInside a1 1 iv188 ar188) (fun r198 iv198 ar198 => ob (mX12_isKind r198 2 iv198 ar198) (fun r202 iv202 ar202 => if r202 = 0 then mX12_typeDone_J213 a1 0 iv202 ar202 else mX12_typeDone_J213 a1 1 iv202 ar202)))) else if (ar 32 a1.toNatClampNeg) = 26 then ob (mX12_more 3 iv ar) (fun r249 iv249 ar249 => some (r249, iv249, ar249)) else if (ar 32 a1.toNatClampNeg) = 27 then ob (mX12_more 3 iv ar) (fun r249 iv249 ar249 => some (r249, iv249, ar249)) else if (ar 32 a1.toNatClampNeg) = 28 then ob (mX12_typeInside a1 0 iv ar) (fun r257 iv257 ar257 => ob (mX12_isKind r257 3 iv257 ar257) (fun r261 iv261 ar261 => if r261 = 0 then ob (mX12_misfit a1 iv261 ar261) (fun r288 iv288 ar288 => some (r288, iv288, ar288)) else ob (mX12_typeInside a1 1 iv261 ar261) (fun r271 iv271 ar271 => ob (mX12_typeInside a1 2 iv271 ar271) (fun r277 iv277 ar277 => ob (mX12_united r271 r277 iv277 ar277) (fun r280 iv280 ar280 => some (r280, iv280, ar280)))))) else if (ar 32 a1.toNatClampNeg) = 29 then ob (mX12_typeRecord a1 iv ar) (fun r294 iv294 ar294 => some (r294, iv294, ar294)) else if (ar 32 a1.toNatClampNeg) = 30 then ob (mX12_typeInside a1 0 iv ar) (fun r301 iv301 ar301 => if r301 < 0 ∨ 400 ≤ r301.toNatClampNeg then none else if (ar301 4 r301.toNatClampNeg) = 5 then if r301 < 0 ∨ 400 ≤ r301.toNatClampNeg then none else if a1 < 0 ∨ 200 ≤ a1.toNatClampNeg then none else if (((ar301 5 r301.toNatClampNeg) >>> ((ar301 35 a1.toNatClampNeg) &&& 31)) &&& 1) = 1 then mX12_typeDone_J339 a1 r301 1 iv301 ar301 else mX12_typeDone_J339 a1 r301 0 iv301 ar301 else mX12_typeDone_J339 a1 r301 0 iv301 ar301) else if (ar 32 a1.toNatClampNeg) = 31 then ob (mX12_typeInside a1 0 iv ar) (fun r384 iv384 ar384 => if a1 < 0 ∨ 200 ≤ a1.toNatClampNeg then none else if a1 < 0 ∨ 200 ≤ a1.toNatClampNeg then none else ob (mX12_part (ar384 34 a1.toNatClampNeg) (ar384 35 a1.toNatClampNeg) iv384 ar384) (fun r400 iv400 ar400 => ob (mX12_isBelow r384 r400 iv400 ar400) (fun r403 iv403 ar403 => if r403 = 0 then ob (mX12_misfit a1 iv403 ar403) (fun r420 iv420 ar420 => some (r420, iv420, ar420)) else if a1 < 0 ∨ 200 ≤ a1.toNatClampNeg then none else some ((ar403 34 a1.toNatClampNeg), iv403, ar403)))) else if (ar 32 a1.toNatClampNeg) = 32 then ob (mX12_typeTaken a1 iv ar) (fun r426 iv426 ar426 => some (r426, iv426, ar426)) else ob (mX12_typeInside a1 0 iv ar) (fun r434 iv434 ar434 => if a1 < 0 ∨ 200 ≤ a1.toNatClampNeg then none else ob (mX12_isBelow r434 (ar434 34 a1.toNatClampNeg) iv434 ar434) (fun r443 iv443 ar443 => if r443 = 0 then ob (mX12_misfit a1 iv443 ar443) (fun r460 iv460 ar460 => some (r460, iv460, ar460)) else if a1 < 0 ∨ 200 ≤ a1.toNatClampNeg then none else some ((ar443 34 a1.toNatClampNeg), iv443, ar443)))
set_option maxRecDepth 100000 in
set_option maxHeartbeats 4000000 in
theorem kX12_typeDone {a1 a2 : Int32} {iv ivz : mI} {ar arz : mA} {rz : Int32} (hm : mX12_typeDone a1 a2 iv ar = some (rz, ivz, arz)) : Ct l D cI cJ yX12_typeDone cX12_typeDone 5 (some .int) 7 167 [.ref o, .int a1, .int a2] (wM cI o ad iv ar) (wM cI o ad ivz arz) rz := by
  intro sz
  refine ct_of (by decide) (Nat.le_of_ble_eq_true rfl) ?_
  intro p e s m args below meth c C hw ls hl
  have hl : lv_has ls 5 [(0, .ref o), (1, .int a1), (2, .int a2)] := hl
  have hx := C.1.1
  have hb := C.1.2.1
  unfold mX12_typeDone at hm
  refine lv_aload_n hx hb dX12_typeDone_0 rfl (lv_at hl 0 rfl) ?_
  refine g_get C hw gM_32 dX12_typeDone_1 ?_
  refine lv_iload_n hx hb dX12_typeDone_4 rfl (lv_at hl 1 rfl) ?_
  obtain ⟨hi, hm⟩ := it_a hm
  refine g_ald C hw aM_32 hi dX12_typeDone_5 ?_
  refine br_by (c := (ar 32 a1.toNatClampNeg) = 20) (fun hc => ?_) (fun hc20 => ?_)
  · have hm := it_t hc hm
    refine lv_tableIn (off := 66) (tgt := 72) hx hb dX12_typeDone_6 (by rw [hc]; decide) (by rw [hc]; decide) (by rw [hc]; rfl) (by decide) ?_
    refine lv_aload_n hx hb dX12_typeDone_72 rfl (lv_at hl 0 rfl) ?_
    refine g_get C hw gM_55 dX12_typeDone_73 ?_
    refine lv_iload_n hx hb dX12_typeDone_76 rfl (lv_at hl 2 rfl) ?_
    refine lv_iconst (v := 1) hx hb dX12_typeDone_77 ci_1 ?_
    refine lv_isub hx hb dX12_typeDone_78 ?_
    refine lv_aload_n hx hb dX12_typeDone_79 rfl (lv_at hl 0 rfl) ?_
    refine g_get C hw gM_34 dX12_typeDone_80 ?_
    refine lv_iload_n hx hb dX12_typeDone_83 rfl (lv_at hl 1 rfl) ?_
    obtain ⟨hi, hm⟩ := it_a hm
    refine g_ald C hw aM_34 hi dX12_typeDone_84 ?_
    refine lv_isub hx hb dX12_typeDone_85 ?_
    obtain ⟨hi, hm⟩ := it_a hm
    refine g_ald C hw aM_55 hi dX12_typeDone_86 ?_
    cases hm
    exact g_iret C hw dX12_typeDone_87
  · have hm := it_f hc20 hm
    refine br_by (c := (ar 32 a1.toNatClampNeg) = 21) (fun hc => ?_) (fun hc21 => ?_)
    · have hm := it_t hc hm
      refine lv_tableIn (off := 82) (tgt := 88) hx hb dX12_typeDone_6 (by rw [hc]; decide) (by rw [hc]; decide) (by rw [hc]; rfl) (by decide) ?_
      refine lv_aload_n hx hb dX12_typeDone_88 rfl (lv_at hl 0 rfl) ?_
      refine lv_iconst (v := 4) hx hb dX12_typeDone_89 ci_4 ?_
      obtain ⟨r90, iv90, ar90, hc90, hm⟩ := ob_some hm
      refine g_calli (As := [.int 4]) (rest := []) C hw (kX12_more hc90) mtX12_more lkX12_340 oM hl.1 rfl rfl (Nat.le_of_ble_eq_true rfl) ⟨Nat.le_of_ble_eq_true rfl, Nat.le_of_ble_eq_true rfl⟩ dX12_typeDone_90 ⟨Nat.zero_le _, Nat.zero_le _⟩ (fun H locs hw => ?_)
      refine lv_istore_n (lv' := [(3, .int r90), (0, .ref o), (1, .int a1), (2, .int a2)]) hx hb dX12_typeDone_93 rfl hl (by decide) rfl (fun ls hl => ?_)
      refine lv_aload_n hx hb dX12_typeDone_94 rfl (lv_at hl 1 rfl) ?_
      refine g_get C hw gM_6 dX12_typeDone_95 ?_
      refine lv_bipush (v := 8) hx hb dX12_typeDone_98 cb_8 ?_
      refine lv_iload_n hx hb dX12_typeDone_100 rfl (lv_at hl 0 rfl) ?_
      refine lv_imul hx hb dX12_typeDone_101 ?_
      refine lv_aload_n hx hb dX12_typeDone_102 rfl (lv_at hl 1 rfl) ?_
      refine g_get C hw gM_24 dX12_typeDone_103 ?_
      refine lv_if_ne (tgt := 118) hx hb dX12_typeDone_106 (by decide) (fun hc => ?_) (fun hc => ?_)
      · have hm := it_f hc hm
        refine lv_aload_n hx hb dX12_typeDone_118 rfl (lv_at hl 1 rfl) ?_
        refine g_get C hw gM_6 dX12_typeDone_119 ?_
        refine lv_bipush (v := 8) hx hb dX12_typeDone_122 cb_8 ?_
        refine lv_iload_n hx hb dX12_typeDone_124 rfl (lv_at hl 0 rfl) ?_
        refine lv_imul hx hb dX12_typeDone_125 ?_
        obtain ⟨hi, hm⟩ := it_a hm
        refine g_ald C hw aM_6 hi dX12_typeDone_126 ?_
        exact wX12_typeDone_J127 C _ _ _ _ _ _ _ _ _ hm _ _ _ (lv_sub hl [1, 2, 0] rfl) hw
      · have hm := it_t hc hm
        refine lv_aload_n hx hb dX12_typeDone_109 rfl (lv_at hl 1 rfl) ?_
        refine g_get C hw gM_34 dX12_typeDone_110 ?_
        refine lv_iload_n hx hb dX12_typeDone_113 rfl (lv_at hl 2 rfl) ?_
        obtain ⟨hi, hm⟩ := it_a hm
        refine g_ald C hw aM_34 hi dX12_typeDone_114 ?_
        refine lv_goto (tgt := 127) hx hb dX12_typeDone_115 (by decide) ?_
        exact wX12_typeDone_J127 C _ _ _ _ _ _ _ _ _ hm _ _ _ (lv_sub hl [1, 2, 0] rfl) hw
    · have hm := it_f hc21 hm
      refine br_by (c := (ar 32 a1.toNatClampNeg) = 22) (fun hc => ?_) (fun hc22 => ?_)
      · have hm := it_t hc hm
        refine lv_tableIn (off := 162) (tgt := 168) hx hb dX12_typeDone_6 (by rw [hc]; decide) (by rw [hc]; decide) (by rw [hc]; rfl) (by decide) ?_
        refine lv_aload_n hx hb dX12_typeDone_168 rfl (lv_at hl 0 rfl) ?_
        refine lv_iload_n hx hb dX12_typeDone_169 rfl (lv_at hl 1 rfl) ?_
        obtain ⟨r170, iv170, ar170, hc170, hm⟩ := ob_some hm
        refine g_calli (As := [.int a1]) (rest := []) C hw (kX12_typeApplied hc170) mtX12_typeApplied lkX12_343 oM hl.1 rfl rfl (Nat.le_of_ble_eq_true rfl) ⟨Nat.le_of_ble_eq_true rfl, Nat.le_of_ble_eq_true rfl⟩ dX12_typeDone_170 ⟨Nat.zero_le _, Nat.zero_le _⟩ (fun H locs hw => ?_)
        cases hm
        exact g_iret C hw dX12_typeDone_173
      · have hm := it_f hc22 hm
        refine br_by (c := (ar 32 a1.toNatClampNeg) = 23) (fun hc => ?_) (fun hc23 => ?_)
        · have hm := it_t hc hm
          refine lv_tableIn (off := 168) (tgt := 174) hx hb dX12_typeDone_6 (by rw [hc]; decide) (by rw [hc]; decide) (by rw [hc]; rfl) (by decide) ?_
          refine lv_aload_n hx hb dX12_typeDone_174 rfl (lv_at hl 0 rfl) ?_
          refine lv_iconst (v := 2) hx hb dX12_typeDone_175 ci_2 ?_
          obtain ⟨r176, iv176, ar176, hc176, hm⟩ := ob_some hm
          refine g_calli (As := [.int 2]) (rest := []) C hw (kX12_more hc176) mtX12_more lkX12_340 oM hl.1 rfl rfl (Nat.le_of_ble_eq_true rfl) ⟨Nat.le_of_ble_eq_true rfl, Nat.le_of_ble_eq_true rfl⟩ dX12_typeDone_176 ⟨Nat.zero_le _, Nat.zero_le _⟩ (fun H locs hw => ?_)
          cases hm
          exact g_iret C hw dX12_typeDone_179
        · have hm := it_f hc23 hm
          refine br_by (c := (ar 32 a1.toNatClampNeg) = 24) (fun hc => ?_) (fun hc24 => ?_)
          · have hm := it_t hc hm
            refine lv_tableIn (off := 174) (tgt := 180) hx hb dX12_typeDone_6 (by rw [hc]; decide) (by rw [hc]; decide) (by rw [hc]; rfl) (by decide) ?_
            refine lv_aload_n hx hb dX12_typeDone_180 rfl (lv_at hl 0 rfl) ?_
            refine lv_aload_n hx hb dX12_typeDone_181 rfl (lv_at hl 0 rfl) ?_
            refine lv_iload_n hx hb dX12_typeDone_182 rfl (lv_at hl 1 rfl) ?_
            refine lv_iconst (v := 0) hx hb dX12_typeDone_183 ci_0 ?_
            obtain ⟨r184, iv184, ar184, hc184, hm⟩ := ob_some hm
            refine g_calli (As := [.int a1, .int 0]) (rest := [.ref o]) C hw (kX12_typeInside hc184) mtX12_typeInside lkX12_337 oM hl.1 rfl rfl (Nat.le_of_ble_eq_true rfl) ⟨Nat.le_of_ble_eq_true rfl, Nat.le_of_ble_eq_true rfl⟩ dX12_typeDone_184 ⟨Nat.zero_le _, Nat.zero_le _⟩ (fun H locs hw => ?_)
            refine lv_iconst (v := 2) hx hb dX12_typeDone_187 ci_2 ?_
            obtain ⟨r188, iv188, ar188, hc188, hm⟩ := ob_some hm
            refine g_calli (As := [.int r184, .int 2]) (rest := []) C hw (kX12_isKind hc188) mtX12_isKind lkX12_346 oM hl.1 rfl rfl (Nat.le_of_ble_eq_true rfl) ⟨Nat.le_of_ble_eq_true rfl, Nat.le_of_ble_eq_true rfl⟩ dX12_typeDone_188 ⟨Nat.zero_le _, Nat.zero_le _⟩ (fun H locs hw => ?_)
            refine lv_if_eq (tgt := 212) hx hb dX12_typeDone_191 (by decide) (fun hc => ?_) (fun hc => ?_)
            · have hm := it_t hc hm
              refine lv_iconst (v := 0) hx hb dX12_typeDone_212 ci_0 ?_
              exact wX12_typeDone_J213 C _ _ _ _ _ _ _ hm _ _ _ (lv_sub hl [0, 1] rfl) hw
            · have hm := it_f hc hm
              refine lv_aload_n hx hb dX12_typeDone_194 rfl (lv_at hl 0 rfl) ?_
              refine lv_aload_n hx hb dX12_typeDone_195 rfl (lv_at hl 0 rfl) ?_
              refine lv_iload_n hx hb dX12_typeDone_196 rfl (lv_at hl 1 rfl) ?_
              refine lv_iconst (v := 1) hx hb dX12_typeDone_197 ci_1 ?_
              obtain ⟨r198, iv198, ar198, hc198, hm⟩ := ob_some hm
              refine g_calli (As := [.int a1, .int 1]) (rest := [.ref o]) C hw (kX12_typeInside hc198) mtX12_typeInside lkX12_337 oM hl.1 rfl rfl (Nat.le_of_ble_eq_true rfl) ⟨Nat.le_of_ble_eq_true rfl, Nat.le_of_ble_eq_true rfl⟩ dX12_typeDone_198 ⟨Nat.zero_le _, Nat.zero_le _⟩ (fun H locs hw => ?_)
              refine lv_iconst (v := 2) hx hb dX12_typeDone_201 ci_2 ?_
              obtain ⟨r202, iv202, ar202, hc202, hm⟩ := ob_some hm
              refine g_calli (As := [.int r198, .int 2]) (rest := []) C hw (kX12_isKind hc202) mtX12_isKind lkX12_346 oM hl.1 rfl rfl (Nat.le_of_ble_eq_true rfl) ⟨Nat.le_of_ble_eq_true rfl, Nat.le_of_ble_eq_true rfl⟩ dX12_typeDone_202 ⟨Nat.zero_le _, Nat.zero_le _⟩ (fun H locs hw => ?_)
              refine lv_if_eq (tgt := 212) hx hb dX12_typeDone_205 (by decide) (fun hc => ?_) (fun hc => ?_)
              · have hm := it_t hc hm
                refine lv_iconst (v := 0) hx hb dX12_typeDone_212 ci_0 ?_
                exact wX12_typeDone_J213 C _ _ _ _ _ _ _ hm _ _ _ (lv_sub hl [0, 1] rfl) hw
              · have hm := it_f hc hm
                refine lv_iconst (v := 1) hx hb dX12_typeDone_208 ci_1 ?_
                refine lv_goto (tgt := 213) hx hb dX12_typeDone_209 (by decide) ?_
                exact wX12_typeDone_J213 C _ _ _ _ _ _ _ hm _ _ _ (lv_sub hl [0, 1] rfl) hw
          · have hm := it_f hc24 hm
            refine br_by (c := (ar 32 a1.toNatClampNeg) = 25) (fun hc => ?_) (fun hc25 => ?_)
            · have hm := it_t hc hm
              refine lv_tableIn (off := 174) (tgt := 180) hx hb dX12_typeDone_6 (by rw [hc]; decide) (by rw [hc]; decide) (by rw [hc]; rfl) (by decide) ?_
              refine lv_aload_n hx hb dX12_typeDone_180 rfl (lv_at hl 0 rfl) ?_
              refine lv_aload_n hx hb dX12_typeDone_181 rfl (lv_at hl 0 rfl) ?_
              refine lv_iload_n hx hb dX12_typeDone_182 rfl (lv_at hl 1 rfl) ?_
              refine lv_iconst (v := 0) hx hb dX12_typeDone_183 ci_0 ?_
              obtain ⟨r184, iv184, ar184, hc184, hm⟩ := ob_some hm
              refine g_calli (As := [.int a1, .int 0]) (rest := [.ref o]) C hw (kX12_typeInside hc184) mtX12_typeInside lkX12_337 oM hl.1 rfl rfl (Nat.le_of_ble_eq_true rfl) ⟨Nat.le_of_ble_eq_true rfl, Nat.le_of_ble_eq_true rfl⟩ dX12_typeDone_184 ⟨Nat.zero_le _, Nat.zero_le _⟩ (fun H locs hw => ?_)
              refine lv_iconst (v := 2) hx hb dX12_typeDone_187 ci_2 ?_
              obtain ⟨r188, iv188, ar188, hc188, hm⟩ := ob_some hm
              refine g_calli (As := [.int r184, .int 2]) (rest := []) C hw (kX12_isKind hc188) mtX12_isKind lkX12_346 oM hl.1 rfl rfl (Nat.le_of_ble_eq_true rfl) ⟨Nat.le_of_ble_eq_true rfl, Nat.le_of_ble_eq_true rfl⟩ dX12_typeDone_188 ⟨Nat.zero_le _, Nat.zero_le _⟩ (fun H locs hw => ?_)
              refine lv_if_eq (tgt := 212) hx hb dX12_typeDone_191 (by decide) (fun hc => ?_) (fun hc => ?_)
              · have hm := it_t hc hm
                refine lv_iconst (v := 0) hx hb dX12_typeDone_212 ci_0 ?_
                exact wX12_typeDone_J213 C _ _ _ _ _ _ _ hm _ _ _ (lv_sub hl [0, 1] rfl) hw
              · have hm := it_f hc hm
                refine lv_aload_n hx hb dX12_typeDone_194 rfl (lv_at hl 0 rfl) ?_
                refine lv_aload_n hx hb dX12_typeDone_195 rfl (lv_at hl 0 rfl) ?_
                refine lv_iload_n hx hb dX12_typeDone_196 rfl (lv_at hl 1 rfl) ?_
                refine lv_iconst (v := 1) hx hb dX12_typeDone_197 ci_1 ?_
                obtain ⟨r198, iv198, ar198, hc198, hm⟩ := ob_some hm
                refine g_calli (As := [.int a1, .int 1]) (rest := [.ref o]) C hw (kX12_typeInside hc198) mtX12_typeInside lkX12_337 oM hl.1 rfl rfl (Nat.le_of_ble_eq_true rfl) ⟨Nat.le_of_ble_eq_true rfl, Nat.le_of_ble_eq_true rfl⟩ dX12_typeDone_198 ⟨Nat.zero_le _, Nat.zero_le _⟩ (fun H locs hw => ?_)
                refine lv_iconst (v := 2) hx hb dX12_typeDone_201 ci_2 ?_
                obtain ⟨r202, iv202, ar202, hc202, hm⟩ := ob_some hm
                refine g_calli (As := [.int r198, .int 2]) (rest := []) C hw (kX12_isKind hc202) mtX12_isKind lkX12_346 oM hl.1 rfl rfl (Nat.le_of_ble_eq_true rfl) ⟨Nat.le_of_ble_eq_true rfl, Nat.le_of_ble_eq_true rfl⟩ dX12_typeDone_202 ⟨Nat.zero_le _, Nat.zero_le _⟩ (fun H locs hw => ?_)
                refine lv_if_eq (tgt := 212) hx hb dX12_typeDone_205 (by decide) (fun hc => ?_) (fun hc => ?_)
                · have hm := it_t hc hm
                  refine lv_iconst (v := 0) hx hb dX12_typeDone_212 ci_0 ?_
                  exact wX12_typeDone_J213 C _ _ _ _ _ _ _ hm _ _ _ (lv_sub hl [0, 1] rfl) hw
                · have hm := it_f hc hm
                  refine lv_iconst (v := 1) hx hb dX12_typeDone_208 ci_1 ?_
                  refine lv_goto (tgt := 213) hx hb dX12_typeDone_209 (by decide) ?_
                  exact wX12_typeDone_J213 C _ _ _ _ _ _ _ hm _ _ _ (lv_sub hl [0, 1] rfl) hw
            · have hm := it_f hc25 hm
              refine br_by (c := (ar 32 a1.toNatClampNeg) = 26) (fun hc => ?_) (fun hc26 => ?_)
              · have hm := it_t hc hm
                refine lv_tableIn (off := 241) (tgt := 247) hx hb dX12_typeDone_6 (by rw [hc]; decide) (by rw [hc]; decide) (by rw [hc]; rfl) (by decide) ?_
                refine lv_aload_n hx hb dX12_typeDone_247 rfl (lv_at hl 0 rfl) ?_
                refine lv_iconst (v := 3) hx hb dX12_typeDone_248 ci_3 ?_
                obtain ⟨r249, iv249, ar249, hc249, hm⟩ := ob_some hm
                refine g_calli (As := [.int 3]) (rest := []) C hw (kX12_more hc249) mtX12_more lkX12_340 oM hl.1 rfl rfl (Nat.le_of_ble_eq_true rfl) ⟨Nat.le_of_ble_eq_true rfl, Nat.le_of_ble_eq_true rfl⟩ dX12_typeDone_249 ⟨Nat.zero_le _, Nat.zero_le _⟩ (fun H locs hw => ?_)
                cases hm
                exact g_iret C hw dX12_typeDone_252
              · have hm := it_f hc26 hm
                refine br_by (c := (ar 32 a1.toNatClampNeg) = 27) (fun hc => ?_) (fun hc27 => ?_)
                · have hm := it_t hc hm
                  refine lv_tableIn (off := 241) (tgt := 247) hx hb dX12_typeDone_6 (by rw [hc]; decide) (by rw [hc]; decide) (by rw [hc]; rfl) (by decide) ?_
                  refine lv_aload_n hx hb dX12_typeDone_247 rfl (lv_at hl 0 rfl) ?_
                  refine lv_iconst (v := 3) hx hb dX12_typeDone_248 ci_3 ?_
                  obtain ⟨r249, iv249, ar249, hc249, hm⟩ := ob_some hm
                  refine g_calli (As := [.int 3]) (rest := []) C hw (kX12_more hc249) mtX12_more lkX12_340 oM hl.1 rfl rfl (Nat.le_of_ble_eq_true rfl) ⟨Nat.le_of_ble_eq_true rfl, Nat.le_of_ble_eq_true rfl⟩ dX12_typeDone_249 ⟨Nat.zero_le _, Nat.zero_le _⟩ (fun H locs hw => ?_)
                  cases hm
                  exact g_iret C hw dX12_typeDone_252
                · have hm := it_f hc27 hm
                  refine br_by (c := (ar 32 a1.toNatClampNeg) = 28) (fun hc => ?_) (fun hc28 => ?_)
                  · have hm := it_t hc hm
                    refine lv_tableIn (off := 247) (tgt := 253) hx hb dX12_typeDone_6 (by rw [hc]; decide) (by rw [hc]; decide) (by rw [hc]; rfl) (by decide) ?_
                    refine lv_aload_n hx hb dX12_typeDone_253 rfl (lv_at hl 0 rfl) ?_
                    refine lv_aload_n hx hb dX12_typeDone_254 rfl (lv_at hl 0 rfl) ?_
                    refine lv_iload_n hx hb dX12_typeDone_255 rfl (lv_at hl 1 rfl) ?_
                    refine lv_iconst (v := 0) hx hb dX12_typeDone_256 ci_0 ?_
                    obtain ⟨r257, iv257, ar257, hc257, hm⟩ := ob_some hm
                    refine g_calli (As := [.int a1, .int 0]) (rest := [.ref o]) C hw (kX12_typeInside hc257) mtX12_typeInside lkX12_337 oM hl.1 rfl rfl (Nat.le_of_ble_eq_true rfl) ⟨Nat.le_of_ble_eq_true rfl, Nat.le_of_ble_eq_true rfl⟩ dX12_typeDone_257 ⟨Nat.zero_le _, Nat.zero_le _⟩ (fun H locs hw => ?_)
                    refine lv_iconst (v := 3) hx hb dX12_typeDone_260 ci_3 ?_
                    obtain ⟨r261, iv261, ar261, hc261, hm⟩ := ob_some hm
                    refine g_calli (As := [.int r257, .int 3]) (rest := []) C hw (kX12_isKind hc261) mtX12_isKind lkX12_346 oM hl.1 rfl rfl (Nat.le_of_ble_eq_true rfl) ⟨Nat.le_of_ble_eq_true rfl, Nat.le_of_ble_eq_true rfl⟩ dX12_typeDone_261 ⟨Nat.zero_le _, Nat.zero_le _⟩ (fun H locs hw => ?_)
                    refine lv_if_eq (tgt := 286) hx hb dX12_typeDone_264 (by decide) (fun hc => ?_) (fun hc => ?_)
                    · have hm := it_t hc hm
                      refine lv_aload_n hx hb dX12_typeDone_286 rfl (lv_at hl 0 rfl) ?_
                      refine lv_iload_n hx hb dX12_typeDone_287 rfl (lv_at hl 1 rfl) ?_
                      obtain ⟨r288, iv288, ar288, hc288, hm⟩ := ob_some hm
                      refine g_calli (As := [.int a1]) (rest := []) C hw (kX12_misfit hc288) mtX12_misfit lkX12_349 oM hl.1 rfl rfl (Nat.le_of_ble_eq_true rfl) ⟨Nat.le_of_ble_eq_true rfl, Nat.le_of_ble_eq_true rfl⟩ dX12_typeDone_288 ⟨Nat.zero_le _, Nat.zero_le _⟩ (fun H locs hw => ?_)
                      cases hm
                      exact g_iret C hw dX12_typeDone_291
                    · have hm := it_f hc hm
                      refine lv_aload_n hx hb dX12_typeDone_267 rfl (lv_at hl 0 rfl) ?_
                      refine lv_aload_n hx hb dX12_typeDone_268 rfl (lv_at hl 0 rfl) ?_
                      refine lv_iload_n hx hb dX12_typeDone_269 rfl (lv_at hl 1 rfl) ?_
                      refine lv_iconst (v := 1) hx hb dX12_typeDone_270 ci_1 ?_
                      obtain ⟨r271, iv271, ar271, hc271, hm⟩ := ob_some hm
                      refine g_calli (As := [.int a1, .int 1]) (rest := [.ref o]) C hw (kX12_typeInside hc271) mtX12_typeInside lkX12_337 oM hl.1 rfl rfl (Nat.le_of_ble_eq_true rfl) ⟨Nat.le_of_ble_eq_true rfl, Nat.le_of_ble_eq_true rfl⟩ dX12_typeDone_271 ⟨Nat.zero_le _, Nat.zero_le _⟩ (fun H locs hw => ?_)
                      refine lv_aload_n hx hb dX12_typeDone_274 rfl (lv_at hl 0 rfl) ?_
                      refine lv_iload_n hx hb dX12_typeDone_275 rfl (lv_at hl 1 rfl) ?_
                      refine lv_iconst (v := 2) hx hb dX12_typeDone_276 ci_2 ?_
                      obtain ⟨r277, iv277, ar277, hc277, hm⟩ := ob_some hm
                      refine g_calli (As := [.int a1, .int 2]) (rest := [.int r271, .ref o]) C hw (kX12_typeInside hc277) mtX12_typeInside lkX12_337 oM hl.1 rfl rfl (Nat.le_of_ble_eq_true rfl) ⟨Nat.le_of_ble_eq_true rfl, Nat.le_of_ble_eq_true rfl⟩ dX12_typeDone_277 ⟨Nat.zero_le _, Nat.zero_le _⟩ (fun H locs hw => ?_)
                      obtain ⟨r280, iv280, ar280, hc280, hm⟩ := ob_some hm
                      refine g_calli (As := [.int r271, .int r277]) (rest := []) C hw (kX12_united hc280) mtX12_united lkX12_352 oM hl.1 rfl rfl (Nat.le_of_ble_eq_true rfl) ⟨Nat.le_of_ble_eq_true rfl, Nat.le_of_ble_eq_true rfl⟩ dX12_typeDone_280 ⟨Nat.zero_le _, Nat.zero_le _⟩ (fun H locs hw => ?_)
                      refine lv_goto (tgt := 291) hx hb dX12_typeDone_283 (by decide) ?_
                      cases hm
                      exact g_iret C hw dX12_typeDone_291
                  · have hm := it_f hc28 hm
                    refine br_by (c := (ar 32 a1.toNatClampNeg) = 29) (fun hc => ?_) (fun hc29 => ?_)
                    · have hm := it_t hc hm
                      refine lv_tableIn (off := 286) (tgt := 292) hx hb dX12_typeDone_6 (by rw [hc]; decide) (by rw [hc]; decide) (by rw [hc]; rfl) (by decide) ?_
                      refine lv_aload_n hx hb dX12_typeDone_292 rfl (lv_at hl 0 rfl) ?_
                      refine lv_iload_n hx hb dX12_typeDone_293 rfl (lv_at hl 1 rfl) ?_
                      obtain ⟨r294, iv294, ar294, hc294, hm⟩ := ob_some hm
                      refine g_calli (As := [.int a1]) (rest := []) C hw (kX12_typeRecord hc294) mtX12_typeRecord lkX12_355 oM hl.1 rfl rfl (Nat.le_of_ble_eq_true rfl) ⟨Nat.le_of_ble_eq_true rfl, Nat.le_of_ble_eq_true rfl⟩ dX12_typeDone_294 ⟨Nat.zero_le _, Nat.zero_le _⟩ (fun H locs hw => ?_)
                      cases hm
                      exact g_iret C hw dX12_typeDone_297
                    · have hm := it_f hc29 hm
                      refine br_by (c := (ar 32 a1.toNatClampNeg) = 30) (fun hc => ?_) (fun hc30 => ?_)
                      · have hm := it_t hc hm
                        refine lv_tableIn (off := 292) (tgt := 298) hx hb dX12_typeDone_6 (by rw [hc]; decide) (by rw [hc]; decide) (by rw [hc]; rfl) (by decide) ?_
                        refine lv_aload_n hx hb dX12_typeDone_298 rfl (lv_at hl 0 rfl) ?_
                        refine lv_iload_n hx hb dX12_typeDone_299 rfl (lv_at hl 1 rfl) ?_
                        refine lv_iconst (v := 0) hx hb dX12_typeDone_300 ci_0 ?_
                        obtain ⟨r301, iv301, ar301, hc301, hm⟩ := ob_some hm
                        refine g_calli (As := [.int a1, .int 0]) (rest := []) C hw (kX12_typeInside hc301) mtX12_typeInside lkX12_337 oM hl.1 rfl rfl (Nat.le_of_ble_eq_true rfl) ⟨Nat.le_of_ble_eq_true rfl, Nat.le_of_ble_eq_true rfl⟩ dX12_typeDone_301 ⟨Nat.zero_le _, Nat.zero_le _⟩ (fun H locs hw => ?_)
                        refine lv_istore_n (lv' := [(3, .int r301), (0, .ref o), (1, .int a1), (2, .int a2)]) hx hb dX12_typeDone_304 rfl hl (by decide) rfl (fun ls hl => ?_)
                        refine lv_aload_n hx hb dX12_typeDone_305 rfl (lv_at hl 1 rfl) ?_
                        refine g_get C hw gM_4 dX12_typeDone_306 ?_
                        refine lv_iload_n hx hb dX12_typeDone_309 rfl (lv_at hl 0 rfl) ?_
                        obtain ⟨hi, hm⟩ := it_a hm
                        refine g_ald C hw aM_4 hi dX12_typeDone_310 ?_
                        refine lv_iconst (v := 5) hx hb dX12_typeDone_311 ci_5 ?_
                        refine lv_icmp_ne (tgt := 338) hx hb dX12_typeDone_312 (by decide) (fun hc => ?_) (fun hc => ?_)
                        · have hm := it_f hc hm
                          refine lv_iconst (v := 0) hx hb dX12_typeDone_338 ci_0 ?_
                          exact wX12_typeDone_J339 C _ _ _ _ _ _ _ _ hm _ _ _ (lv_sub hl [1, 2, 0] rfl) hw
                        · have hm := it_t hc hm
                          refine lv_aload_n hx hb dX12_typeDone_315 rfl (lv_at hl 1 rfl) ?_
                          refine g_get C hw gM_5 dX12_typeDone_316 ?_
                          refine lv_iload_n hx hb dX12_typeDone_319 rfl (lv_at hl 0 rfl) ?_
                          obtain ⟨hi, hm⟩ := it_a hm
                          refine g_ald C hw aM_5 hi dX12_typeDone_320 ?_
                          refine lv_aload_n hx hb dX12_typeDone_321 rfl (lv_at hl 1 rfl) ?_
                          refine g_get C hw gM_35 dX12_typeDone_322 ?_
                          refine lv_iload_n hx hb dX12_typeDone_325 rfl (lv_at hl 2 rfl) ?_
                          obtain ⟨hi, hm⟩ := it_a hm
                          refine g_ald C hw aM_35 hi dX12_typeDone_326 ?_
                          refine lv_ishr hx hb dX12_typeDone_327 ?_
                          refine lv_iconst (v := 1) hx hb dX12_typeDone_328 ci_1 ?_
                          refine lv_iand hx hb dX12_typeDone_329 ?_
                          refine lv_iconst (v := 1) hx hb dX12_typeDone_330 ci_1 ?_
                          refine lv_icmp_ne (tgt := 338) hx hb dX12_typeDone_331 (by decide) (fun hc => ?_) (fun hc => ?_)
                          · have hm := it_f hc hm
                            refine lv_iconst (v := 0) hx hb dX12_typeDone_338 ci_0 ?_
                            exact wX12_typeDone_J339 C _ _ _ _ _ _ _ _ hm _ _ _ (lv_sub hl [1, 2, 0] rfl) hw
                          · have hm := it_t hc hm
                            refine lv_iconst (v := 1) hx hb dX12_typeDone_334 ci_1 ?_
                            refine lv_goto (tgt := 339) hx hb dX12_typeDone_335 (by decide) ?_
                            exact wX12_typeDone_J339 C _ _ _ _ _ _ _ _ hm _ _ _ (lv_sub hl [1, 2, 0] rfl) hw
                      · have hm := it_f hc30 hm
                        refine br_by (c := (ar 32 a1.toNatClampNeg) = 31) (fun hc => ?_) (fun hc31 => ?_)
                        · have hm := it_t hc hm
                          refine lv_tableIn (off := 374) (tgt := 380) hx hb dX12_typeDone_6 (by rw [hc]; decide) (by rw [hc]; decide) (by rw [hc]; rfl) (by decide) ?_
                          refine lv_aload_n hx hb dX12_typeDone_380 rfl (lv_at hl 0 rfl) ?_
                          refine lv_aload_n hx hb dX12_typeDone_381 rfl (lv_at hl 0 rfl) ?_
                          refine lv_iload_n hx hb dX12_typeDone_382 rfl (lv_at hl 1 rfl) ?_
                          refine lv_iconst (v := 0) hx hb dX12_typeDone_383 ci_0 ?_
                          obtain ⟨r384, iv384, ar384, hc384, hm⟩ := ob_some hm
                          refine g_calli (As := [.int a1, .int 0]) (rest := [.ref o]) C hw (kX12_typeInside hc384) mtX12_typeInside lkX12_337 oM hl.1 rfl rfl (Nat.le_of_ble_eq_true rfl) ⟨Nat.le_of_ble_eq_true rfl, Nat.le_of_ble_eq_true rfl⟩ dX12_typeDone_384 ⟨Nat.zero_le _, Nat.zero_le _⟩ (fun H locs hw => ?_)
                          refine lv_aload_n hx hb dX12_typeDone_387 rfl (lv_at hl 0 rfl) ?_
                          refine lv_aload_n hx hb dX12_typeDone_388 rfl (lv_at hl 0 rfl) ?_
                          refine g_get C hw gM_34 dX12_typeDone_389 ?_
                          refine lv_iload_n hx hb dX12_typeDone_392 rfl (lv_at hl 1 rfl) ?_
                          obtain ⟨hi, hm⟩ := it_a hm
                          refine g_ald C hw aM_34 hi dX12_typeDone_393 ?_
                          refine lv_aload_n hx hb dX12_typeDone_394 rfl (lv_at hl 0 rfl) ?_
                          refine g_get C hw gM_35 dX12_typeDone_395 ?_
                          refine lv_iload_n hx hb dX12_typeDone_398 rfl (lv_at hl 1 rfl) ?_
                          obtain ⟨hi, hm⟩ := it_a hm
                          refine g_ald C hw aM_35 hi dX12_typeDone_399 ?_
                          obtain ⟨r400, iv400, ar400, hc400, hm⟩ := ob_some hm
                          refine g_calli (As := [.int (ar384 34 a1.toNatClampNeg), .int (ar384 35 a1.toNatClampNeg)]) (rest := [.int r384, .ref o]) C hw (kX12_part hc400) mtX12_part lkX12_242 oM hl.1 rfl rfl (Nat.le_of_ble_eq_true rfl) ⟨Nat.le_of_ble_eq_true rfl, Nat.le_of_ble_eq_true rfl⟩ dX12_typeDone_400 ⟨Nat.zero_le _, Nat.zero_le _⟩ (fun H locs hw => ?_)
                          obtain ⟨r403, iv403, ar403, hc403, hm⟩ := ob_some hm
                          refine g_calli (As := [.int r384, .int r400]) (rest := []) C hw (kX12_isBelow hc403) mtX12_isBelow lkX12_269 oM hl.1 rfl rfl (Nat.le_of_ble_eq_true rfl) ⟨Nat.le_of_ble_eq_true rfl, Nat.le_of_ble_eq_true rfl⟩ dX12_typeDone_403 ⟨Nat.zero_le _, Nat.zero_le _⟩ (fun H locs hw => ?_)
                          refine lv_if_eq (tgt := 418) hx hb dX12_typeDone_406 (by decide) (fun hc => ?_) (fun hc => ?_)
                          · have hm := it_t hc hm
                            refine lv_aload_n hx hb dX12_typeDone_418 rfl (lv_at hl 0 rfl) ?_
                            refine lv_iload_n hx hb dX12_typeDone_419 rfl (lv_at hl 1 rfl) ?_
                            obtain ⟨r420, iv420, ar420, hc420, hm⟩ := ob_some hm
                            refine g_calli (As := [.int a1]) (rest := []) C hw (kX12_misfit hc420) mtX12_misfit lkX12_349 oM hl.1 rfl rfl (Nat.le_of_ble_eq_true rfl) ⟨Nat.le_of_ble_eq_true rfl, Nat.le_of_ble_eq_true rfl⟩ dX12_typeDone_420 ⟨Nat.zero_le _, Nat.zero_le _⟩ (fun H locs hw => ?_)
                            cases hm
                            exact g_iret C hw dX12_typeDone_423
                          · have hm := it_f hc hm
                            refine lv_aload_n hx hb dX12_typeDone_409 rfl (lv_at hl 0 rfl) ?_
                            refine g_get C hw gM_34 dX12_typeDone_410 ?_
                            refine lv_iload_n hx hb dX12_typeDone_413 rfl (lv_at hl 1 rfl) ?_
                            obtain ⟨hi, hm⟩ := it_a hm
                            refine g_ald C hw aM_34 hi dX12_typeDone_414 ?_
                            refine lv_goto (tgt := 423) hx hb dX12_typeDone_415 (by decide) ?_
                            cases hm
                            exact g_iret C hw dX12_typeDone_423
                        · have hm := it_f hc31 hm
                          refine br_by (c := (ar 32 a1.toNatClampNeg) = 32) (fun hc => ?_) (fun hc32 => ?_)
                          · have hm := it_t hc hm
                            refine lv_tableIn (off := 418) (tgt := 424) hx hb dX12_typeDone_6 (by rw [hc]; decide) (by rw [hc]; decide) (by rw [hc]; rfl) (by decide) ?_
                            refine lv_aload_n hx hb dX12_typeDone_424 rfl (lv_at hl 0 rfl) ?_
                            refine lv_iload_n hx hb dX12_typeDone_425 rfl (lv_at hl 1 rfl) ?_
                            obtain ⟨r426, iv426, ar426, hc426, hm⟩ := ob_some hm
                            refine g_calli (As := [.int a1]) (rest := []) C hw (kX12_typeTaken hc426) mtX12_typeTaken lkX12_358 oM hl.1 rfl rfl (Nat.le_of_ble_eq_true rfl) ⟨Nat.le_of_ble_eq_true rfl, Nat.le_of_ble_eq_true rfl⟩ dX12_typeDone_426 ⟨Nat.zero_le _, Nat.zero_le _⟩ (fun H locs hw => ?_)
                            cases hm
                            exact g_iret C hw dX12_typeDone_429
                          · have hm := it_f hc32 hm
                            have ho : ((ar 32 a1.toNatClampNeg)).toInt < 20 ∨ 32 < ((ar 32 a1.toNatClampNeg)).toInt := by
                              have ehc20 := sw_ne (n := 20) hc20 (by decide)
                              have ehc21 := sw_ne (n := 21) hc21 (by decide)
                              have ehc22 := sw_ne (n := 22) hc22 (by decide)
                              have ehc23 := sw_ne (n := 23) hc23 (by decide)
                              have ehc24 := sw_ne (n := 24) hc24 (by decide)
                              have ehc25 := sw_ne (n := 25) hc25 (by decide)
                              have ehc26 := sw_ne (n := 26) hc26 (by decide)
                              have ehc27 := sw_ne (n := 27) hc27 (by decide)
                              have ehc28 := sw_ne (n := 28) hc28 (by decide)
                              have ehc29 := sw_ne (n := 29) hc29 (by decide)
                              have ehc30 := sw_ne (n := 30) hc30 (by decide)
                              have ehc31 := sw_ne (n := 31) hc31 (by decide)
                              have ehc32 := sw_ne (n := 32) hc32 (by decide)
                              omega
                            refine lv_tableOut (tgt := 430) hx hb dX12_typeDone_6 ho (by decide) ?_
                            refine lv_aload_n hx hb dX12_typeDone_430 rfl (lv_at hl 0 rfl) ?_
                            refine lv_aload_n hx hb dX12_typeDone_431 rfl (lv_at hl 0 rfl) ?_
                            refine lv_iload_n hx hb dX12_typeDone_432 rfl (lv_at hl 1 rfl) ?_
                            refine lv_iconst (v := 0) hx hb dX12_typeDone_433 ci_0 ?_
                            obtain ⟨r434, iv434, ar434, hc434, hm⟩ := ob_some hm
                            refine g_calli (As := [.int a1, .int 0]) (rest := [.ref o]) C hw (kX12_typeInside hc434) mtX12_typeInside lkX12_337 oM hl.1 rfl rfl (Nat.le_of_ble_eq_true rfl) ⟨Nat.le_of_ble_eq_true rfl, Nat.le_of_ble_eq_true rfl⟩ dX12_typeDone_434 ⟨Nat.zero_le _, Nat.zero_le _⟩ (fun H locs hw => ?_)
                            refine lv_aload_n hx hb dX12_typeDone_437 rfl (lv_at hl 0 rfl) ?_
                            refine g_get C hw gM_34 dX12_typeDone_438 ?_
                            refine lv_iload_n hx hb dX12_typeDone_441 rfl (lv_at hl 1 rfl) ?_
                            obtain ⟨hi, hm⟩ := it_a hm
                            refine g_ald C hw aM_34 hi dX12_typeDone_442 ?_
                            obtain ⟨r443, iv443, ar443, hc443, hm⟩ := ob_some hm
                            refine g_calli (As := [.int r434, .int (ar434 34 a1.toNatClampNeg)]) (rest := []) C hw (kX12_isBelow hc443) mtX12_isBelow lkX12_269 oM hl.1 rfl rfl (Nat.le_of_ble_eq_true rfl) ⟨Nat.le_of_ble_eq_true rfl, Nat.le_of_ble_eq_true rfl⟩ dX12_typeDone_443 ⟨Nat.zero_le _, Nat.zero_le _⟩ (fun H locs hw => ?_)
                            refine lv_if_eq (tgt := 458) hx hb dX12_typeDone_446 (by decide) (fun hc => ?_) (fun hc => ?_)
                            · have hm := it_t hc hm
                              refine lv_aload_n hx hb dX12_typeDone_458 rfl (lv_at hl 0 rfl) ?_
                              refine lv_iload_n hx hb dX12_typeDone_459 rfl (lv_at hl 1 rfl) ?_
                              obtain ⟨r460, iv460, ar460, hc460, hm⟩ := ob_some hm
                              refine g_calli (As := [.int a1]) (rest := []) C hw (kX12_misfit hc460) mtX12_misfit lkX12_349 oM hl.1 rfl rfl (Nat.le_of_ble_eq_true rfl) ⟨Nat.le_of_ble_eq_true rfl, Nat.le_of_ble_eq_true rfl⟩ dX12_typeDone_460 ⟨Nat.zero_le _, Nat.zero_le _⟩ (fun H locs hw => ?_)
                              cases hm
                              exact g_iret C hw dX12_typeDone_463
                            · have hm := it_f hc hm
                              refine lv_aload_n hx hb dX12_typeDone_449 rfl (lv_at hl 0 rfl) ?_
                              refine g_get C hw gM_34 dX12_typeDone_450 ?_
                              refine lv_iload_n hx hb dX12_typeDone_453 rfl (lv_at hl 1 rfl) ?_
                              obtain ⟨hi, hm⟩ := it_a hm
                              refine g_ald C hw aM_34 hi dX12_typeDone_454 ?_
                              refine lv_goto (tgt := 463) hx hb dX12_typeDone_455 (by decide) ?_
                              cases hm
                              exact g_iret C hw dX12_typeDone_463
end
