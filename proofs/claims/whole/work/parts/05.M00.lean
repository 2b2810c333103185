section
variable {l : Launch} {p : Program} {e : Env} {s : State} {m : MethodId} {args : Array Value} {below : List Frame} {meth : Method} {c : Code} {D : va_G} {cI cJ : ClassId} {A : Nat → Prop} {o : Nat} {ad : Nat → Nat}
def mX12_in (a0 : Int32) (a1 : Int32) (a2 : Int32) (iv : mI) (ar : mA) : Option (Int32 × mI × mA) := if a0 < a1 then some (0, iv, ar) else if a2 < a0 then some (0, iv, ar) else some (1, iv, ar)
set_option maxRecDepth 100000 in
set_option maxHeartbeats 4000000 in
theorem kX12_in {a0 a1 a2 : Int32} {iv ivz : mI} {ar arz : mA} {rz : Int32} (hm : mX12_in a0 a1 a2 iv ar = some (rz, ivz, arz)) : Ct l D cI cJ yX12_in cX12_in 3 (some .boolean) 0 0 [.int a0, .int a1, .int a2] (wM cI o ad iv ar) (wM cI o ad ivz arz) rz := by
  intro sz
  refine ct_of (by decide) (Nat.le_of_ble_eq_true rfl) ?_
  intro p e s m args below meth c C hw ls hl
  have hl : lv_has ls 3 [(0, .int a0), (1, .int a1), (2, .int a2)] := hl
  have hx := C.1.1
  have hb := C.1.2.1
  unfold mX12_in at hm
  refine lv_iload_n hx hb dX12_in_0 rfl (lv_at hl 0 rfl) ?_
  refine lv_iload_n hx hb dX12_in_1 rfl (lv_at hl 1 rfl) ?_
  refine lv_icmp_lt (tgt := 14) hx hb dX12_in_2 (by decide) (fun hc => ?_) (fun hc => ?_)
  · have hm := it_t hc hm
    refine lv_iconst (v := 0) hx hb dX12_in_14 ci_0 ?_
    cases hm
    exact g_zret C hw (Or.inl rfl) dX12_in_15
  · have hm := it_f hc hm
    refine lv_iload_n hx hb dX12_in_5 rfl (lv_at hl 0 rfl) ?_
    refine lv_iload_n hx hb dX12_in_6 rfl (lv_at hl 2 rfl) ?_
    refine lv_icmp_gt (tgt := 14) hx hb dX12_in_7 (by decide) (fun hc => ?_) (fun hc => ?_)
    · have hm := it_t hc hm
      refine lv_iconst (v := 0) hx hb dX12_in_14 ci_0 ?_
      cases hm
      exact g_zret C hw (Or.inl rfl) dX12_in_15
    · have hm := it_f hc hm
      refine lv_iconst (v := 1) hx hb dX12_in_10 ci_1 ?_
      refine lv_goto (tgt := 15) hx hb dX12_in_11 (by decide) ?_
      cases hm
      exact g_zret C hw (Or.inr rfl) dX12_in_15
def mX12_isNode (a1 : Int32) (iv : mI) (ar : mA) : Option (Int32 × mI × mA) := ob (mX12_in a1 0 ((iv 3) - 1) iv ar) (fun r8 iv8 ar8 => if r8 = 0 ∨ r8 = 1 then some (r8, iv8, ar8) else none)
set_option maxRecDepth 100000 in
set_option maxHeartbeats 4000000 in
theorem kX12_isNode {a1 : Int32} {iv ivz : mI} {ar arz : mA} {rz : Int32} (hm : mX12_isNode a1 iv ar = some (rz, ivz, arz)) : Ct l D cI cJ yX12_isNode cX12_isNode 2 (some .boolean) 1 22 [.ref o, .int a1] (wM cI o ad iv ar) (wM cI o ad ivz arz) rz := by
  intro sz
  refine ct_of (by decide) (Nat.le_of_ble_eq_true rfl) ?_
  intro p e s m args below meth c C hw ls hl
  have hl : lv_has ls 2 [(0, .ref o), (1, .int a1)] := hl
  have hx := C.1.1
  have hb := C.1.2.1
  unfold mX12_isNode at hm
  refine lv_iload_n hx hb dX12_isNode_0 rfl (lv_at hl 1 rfl) ?_
  refine lv_iconst (v := 0) hx hb dX12_isNode_1 ci_0 ?_
  refine lv_aload_n hx hb dX12_isNode_2 rfl (lv_at hl 0 rfl) ?_
  refine g_get C hw gM_3 dX12_isNode_3 ?_
  refine lv_iconst (v := 1) hx hb dX12_isNode_6 ci_1 ?_
  refine lv_isub hx hb dX12_isNode_7 ?_
  obtain ⟨r8, iv8, ar8, hc8, hm⟩ := ob_some hm
  refine g_calls (As := [.int a1, .int 0, .int ((iv 3) - 1)]) (rest := []) C hw (kX12_in hc8) stX12_in lkX12_184 hl.1 rfl rfl (Nat.le_of_ble_eq_true rfl) ⟨Nat.le_of_ble_eq_true rfl, Nat.le_of_ble_eq_true rfl⟩ dX12_isNode_8 ⟨Nat.zero_le _, Nat.zero_le _⟩ (fun H locs hw => ?_)
  obtain ⟨hz, hm⟩ := it_z hm
  cases hm
  exact g_zret C hw hz dX12_isNode_11
def mX12_clear  (iv : mI) (ar : mA) : Option (Int32 × mI × mA) := some ((iv 3), va_up (va_up (va_up (va_up iv 3 0) 30 0) 56 0) 57 0, ar)
set_option maxRecDepth 100000 in
set_option maxHeartbeats 4000000 in
theorem kX12_clear {iv ivz : mI} {ar arz : mA} {rz : Int32} (hm : mX12_clear iv ar = some (rz, ivz, arz)) : Ct l D cI cJ yX12_clear cX12_clear 2 (some .int) 0 0 [.ref o] (wM cI o ad iv ar) (wM cI o ad ivz arz) rz := by
  intro sz
  refine ct_of (by decide) (Nat.le_of_ble_eq_true rfl) ?_
  intro p e s m args below meth c C hw ls hl
  have hl : lv_has ls 2 [(0, .ref o)] := hl
  have hx := C.1.1
  have hb := C.1.2.1
  unfold mX12_clear at hm
  refine lv_aload_n hx hb dX12_clear_0 rfl (lv_at hl 0 rfl) ?_
  refine g_get C hw gM_3 dX12_clear_1 ?_
  refine lv_istore_n (lv' := [(1, .int (iv 3)), (0, .ref o)]) hx hb dX12_clear_4 rfl hl (by decide) rfl (fun ls hl => ?_)
  refine lv_aload_n hx hb dX12_clear_5 rfl (lv_at hl 1 rfl) ?_
  refine lv_iconst (v := 0) hx hb dX12_clear_6 ci_0 ?_
  refine g_put C hw pM_3 dX12_clear_7 (fun H locs hw => ?_)
  refine lv_aload_n hx hb dX12_clear_10 rfl (lv_at hl 1 rfl) ?_
  refine lv_iconst (v := 0) hx hb dX12_clear_11 ci_0 ?_
  refine g_put C hw pM_30_0 dX12_clear_12 (fun H locs hw => ?_)
  refine lv_aload_n hx hb dX12_clear_15 rfl (lv_at hl 1 rfl) ?_
  refine lv_iconst (v := 0) hx hb dX12_clear_16 ci_0 ?_
  refine g_put C hw pM_56 dX12_clear_17 (fun H locs hw => ?_)
  refine lv_aload_n hx hb dX12_clear_20 rfl (lv_at hl 1 rfl) ?_
  refine lv_iconst (v := 0) hx hb dX12_clear_21 ci_0 ?_
  refine g_put C hw pM_57 dX12_clear_22 (fun H locs hw => ?_)
  refine lv_iload_n hx hb dX12_clear_25 rfl (lv_at hl 0 rfl) ?_
  cases hm
  exact g_iret C hw dX12_clear_26
def mX12_feed (a1 : Int32) (iv : mI) (ar : mA) : Option (Int32 × mI × mA) := if (iv 0) = 200 then some ((-3), iv, ar) else if (iv 0) < 0 ∨ 200 ≤ (iv 0).toNatClampNeg then none else some (((va_up iv 0 ((iv 0) + 1)) 0), va_up iv 0 ((iv 0) + 1), au ar 1 (iv 0).toNatClampNeg a1)
set_option maxRecDepth 100000 in
set_option maxHeartbeats 4000000 in
theorem kX12_feed {a1 : Int32} {iv ivz : mI} {ar arz : mA} {rz : Int32} (hm : mX12_feed a1 iv ar = some (rz, ivz, arz)) : Ct l D cI cJ yX12_feed cX12_feed 2 (some .int) 0 0 [.ref o, .int a1] (wM cI o ad iv ar) (wM cI o ad ivz arz) rz := by
  intro sz
  refine ct_of (by decide) (Nat.le_of_ble_eq_true rfl) ?_
  intro p e s m args below meth c C hw ls hl
  have hl : lv_has ls 2 [(0, .ref o), (1, .int a1)] := hl
  have hx := C.1.1
  have hb := C.1.2.1
  unfold mX12_feed at hm
  refine lv_aload_n hx hb dX12_feed_0 rfl (lv_at hl 0 rfl) ?_
  refine g_get C hw gM_0 dX12_feed_1 ?_
  refine lv_sipush (v := 200) hx hb dX12_feed_4 cs_200 ?_
  refine lv_icmp_ne (tgt := 13) hx hb dX12_feed_7 (by decide) (fun hc => ?_) (fun hc => ?_)
  · have hm := it_f hc hm
    refine lv_aload_n hx hb dX12_feed_13 rfl (lv_at hl 0 rfl) ?_
    refine g_get C hw gM_1 dX12_feed_14 ?_
    refine lv_aload_n hx hb dX12_feed_17 rfl (lv_at hl 0 rfl) ?_
    refine g_get C hw gM_0 dX12_feed_18 ?_
    refine lv_iload_n hx hb dX12_feed_21 rfl (lv_at hl 1 rfl) ?_
    obtain ⟨hi, hm⟩ := it_a hm
    refine g_ast C hw sM_1 hi dX12_feed_22 (fun H locs hw => ?_)
    refine lv_aload_n hx hb dX12_feed_23 rfl (lv_at hl 0 rfl) ?_
    refine lv_dup hx hb dX12_feed_24 rfl ?_
    refine g_get C hw gM_0 dX12_feed_25 ?_
    refine lv_iconst (v := 1) hx hb dX12_feed_28 ci_1 ?_
    refine lv_iadd hx hb dX12_feed_29 ?_
    refine g_put C hw pM_0 dX12_feed_30 (fun H locs hw => ?_)
    refine lv_aload_n hx hb dX12_feed_33 rfl (lv_at hl 0 rfl) ?_
    refine g_get C hw gM_0 dX12_feed_34 ?_
    cases hm
    exact g_iret C hw dX12_feed_37
  · have hm := it_t hc hm
    refine lv_bipush (v := (-3)) hx hb dX12_feed_10 cb_m3 ?_
    cases hm
    exact g_iret C hw dX12_feed_12
def mX12_newNode_L31 : Nat → Int32 → mI → mA → Option (Int32 × mI × mA)
  | 0, _, _, _ => none
  | n + 1, l3, iv, ar => if 8 ≤ l3 then some ((((va_up iv 3 ((iv 3) + 1)) 3) - 1), va_up iv 3 ((iv 3) + 1), ar) else if ((8 * (iv 3)) + l3) < 0 ∨ 3200 ≤ ((8 * (iv 3)) + l3).toNatClampNeg then none else mX12_newNode_L31 n (l3 + 1) iv (au ar 6 ((8 * (iv 3)) + l3).toNatClampNeg (-1))
set_option maxRecDepth 100000 in
set_option maxHeartbeats 4000000 in
theorem wX12_newNode_L31 (C : mCx p s m args meth c RX12 cX12_newNode 4 (some .int) D cI cJ A) (n : Nat) : ∀ (l3 : Int32) (iv : mI) (ar : mA) (rz : Int32) (ivz : mI) (arz : mA), mX12_newNode_L31 n l3 iv ar = some (rz, ivz, arz) → ∀ (H : Heap) (locs : List Loc) (ls : Array Slot), lv_has ls 4 [(0, .ref o), (3, .int l3)] → inW D A s (wM cI o ad iv ar) H locs → W p l e (rmO 0 0) s m args below meth c H locs 0 0 (MQ below (ctQ D cI cJ (wM cI o ad ivz arz) A rz) args s 0 0 A) (F0 m 31 ls []) := by
  induction n with
  | zero =>
    intro l3 iv ar rz ivz arz hm H locs ls hl hw
    have hm : (none : Option (Int32 × mI × mA)) = some _ := hm
    cases hm
  | succ n ih =>
    intro l3 iv ar rz ivz arz hm H locs ls hl hw
    have hx := C.1.1
    have hb := C.1.2.1
    unfold mX12_newNode_L31 at hm
    refine lv_iload_n hx hb dX12_newNode_31 rfl (lv_at hl 1 rfl) ?_
    refine lv_bipush (v := 8) hx hb dX12_newNode_32 cb_8 ?_
    refine lv_icmp_ge (tgt := 58) hx hb dX12_newNode_34 (by decide) (fun hc => ?_) (fun hc => ?_)
    · have hm := it_t hc hm
      refine lv_aload_n hx hb dX12_newNode_58 rfl (lv_at hl 0 rfl) ?_
      refine lv_dup hx hb dX12_newNode_59 rfl ?_
      refine g_get C hw gM_3 dX12_newNode_60 ?_
      refine lv_iconst (v := 1) hx hb dX12_newNode_63 ci_1 ?_
      refine lv_iadd hx hb dX12_newNode_64 ?_
      refine g_put C hw pM_3 dX12_newNode_65 (fun H locs hw => ?_)
      refine lv_aload_n hx hb dX12_newNode_68 rfl (lv_at hl 0 rfl) ?_
      refine g_get C hw gM_3 dX12_newNode_69 ?_
      refine lv_iconst (v := 1) hx hb dX12_newNode_72 ci_1 ?_
      refine lv_isub hx hb dX12_newNode_73 ?_
      cases hm
      exact g_iret C hw dX12_newNode_74
    · have hm := it_f hc hm
      refine lv_aload_n hx hb dX12_newNode_37 rfl (lv_at hl 0 rfl) ?_
      refine g_get C hw gM_6 dX12_newNode_38 ?_
      refine lv_bipush (v := 8) hx hb dX12_newNode_41 cb_8 ?_
      refine lv_aload_n hx hb dX12_newNode_43 rfl (lv_at hl 0 rfl) ?_
      refine g_get C hw gM_3 dX12_newNode_44 ?_
      refine lv_imul hx hb dX12_newNode_47 ?_
      refine lv_iload_n hx hb dX12_newNode_48 rfl (lv_at hl 1 rfl) ?_
      refine lv_iadd hx hb dX12_newNode_49 ?_
      refine lv_iconst (v := (-1)) hx hb dX12_newNode_50 ci_m1 ?_
      obtain ⟨hi, hm⟩ := it_a hm
      refine g_ast C hw sM_6 hi dX12_newNode_51 (fun H locs hw => ?_)
      refine lv_iinc (v := (l3 + 1)) (lv' := [(3, .int (l3 + 1)), (0, .ref o)]) hx hb dX12_newNode_52 hl (k := 1) rfl (ii_ ci_1) (by decide) rfl (fun ls hl => ?_)
      refine lv_goto (tgt := 31) hx hb dX12_newNode_55 (by decide) ?_
      exact ih _ _ _ _ _ _ hm _ _ _ (lv_sub hl [1, 0] rfl) hw
def mX12_newNode (a1 : Int32) (a2 : Int32) (iv : mI) (ar : mA) : Option (Int32 × mI × mA) := if (iv 3) < 0 ∨ 400 ≤ (iv 3).toNatClampNeg then none else if a1 = 4 then if (iv 3) < 0 ∨ 400 ≤ (iv 3).toNatClampNeg then none else mX12_newNode_L31 bigF 0 iv (au (au ar 4 (iv 3).toNatClampNeg a1) 5 (iv 3).toNatClampNeg 3) else if (iv 3) < 0 ∨ 400 ≤ (iv 3).toNatClampNeg then none else mX12_newNode_L31 bigF 0 iv (au (au ar 4 (iv 3).toNatClampNeg a1) 5 (iv 3).toNatClampNeg a2)
set_option maxRecDepth 100000 in
set_option maxHeartbeats 4000000 in
theorem kX12_newNode {a1 a2 : Int32} {iv ivz : mI} {ar arz : mA} {rz : Int32} (hm : mX12_newNode a1 a2 iv ar = some (rz, ivz, arz)) : Ct l D cI cJ yX12_newNode cX12_newNode 4 (some .int) 0 0 [.ref o, .int a1, .int a2] (wM cI o ad iv ar) (wM cI o ad ivz arz) rz := by
  intro sz
  refine ct_of (by decide) (Nat.le_of_ble_eq_true rfl) ?_
  intro p e s m args below meth c C hw ls hl
  have hl : lv_has ls 4 [(0, .ref o), (1, .int a1), (2, .int a2)] := hl
  have hx := C.1.1
  have hb := C.1.2.1
  unfold mX12_newNode at hm
  refine lv_aload_n hx hb dX12_newNode_0 rfl (lv_at hl 0 rfl) ?_
  refine g_get C hw gM_4 dX12_newNode_1 ?_
  refine lv_aload_n hx hb dX12_newNode_4 rfl (lv_at hl 0 rfl) ?_
  refine g_get C hw gM_3 dX12_newNode_5 ?_
  refine lv_iload_n hx hb dX12_newNode_8 rfl (lv_at hl 1 rfl) ?_
  obtain ⟨hi, hm⟩ := it_a hm
  refine g_ast C hw sM_4 hi dX12_newNode_9 (fun H locs hw => ?_)
  refine lv_aload_n hx hb dX12_newNode_10 rfl (lv_at hl 0 rfl) ?_
  refine g_get C hw gM_5 dX12_newNode_11 ?_
  refine lv_aload_n hx hb dX12_newNode_14 rfl (lv_at hl 0 rfl) ?_
  refine g_get C hw gM_3 dX12_newNode_15 ?_
  refine lv_iload_n hx hb dX12_newNode_18 rfl (lv_at hl 1 rfl) ?_
  refine lv_iconst (v := 4) hx hb dX12_newNode_19 ci_4 ?_
  refine lv_icmp_ne (tgt := 27) hx hb dX12_newNode_20 (by decide) (fun hc => ?_) (fun hc => ?_)
  · have hm := it_f hc hm
    refine lv_iload_n hx hb dX12_newNode_27 rfl (lv_at hl 2 rfl) ?_
    obtain ⟨hi, hm⟩ := it_a hm
    refine g_ast C hw sM_5 hi dX12_newNode_28 (fun H locs hw => ?_)
    refine lv_iconst (v := 0) hx hb dX12_newNode_29 ci_0 ?_
    refine lv_istore_n (lv' := [(3, .int 0), (0, .ref o), (1, .int a1), (2, .int a2)]) hx hb dX12_newNode_30 rfl hl (by decide) rfl (fun ls hl => ?_)
    exact wX12_newNode_L31 C bigF _ _ _ _ _ _ hm _ _ _ (lv_sub hl [1, 0] rfl) hw
  · have hm := it_t hc hm
    refine lv_iconst (v := 3) hx hb dX12_newNode_23 ci_3 ?_
    refine lv_goto (tgt := 28) hx hb dX12_newNode_24 (by decide) ?_
    obtain ⟨hi, hm⟩ := it_a hm
    refine g_ast C hw sM_5 hi dX12_newNode_28 (fun H locs hw => ?_)
    refine lv_iconst (v := 0) hx hb dX12_newNode_29 ci_0 ?_
    refine lv_istore_n (lv' := [(3, .int 0), (0, .ref o), (1, .int a1), (2, .int a2)]) hx hb dX12_newNode_30 rfl hl (by decide) rfl (fun ls hl => ?_)
    exact wX12_newNode_L31 C bigF _ _ _ _ _ _ hm _ _ _ (lv_sub hl [1, 0] rfl) hw
def mX12_part (a1 : Int32) (a2 : Int32) (iv : mI) (ar : mA) : Option (Int32 × mI × mA) := if ((8 * a1) + a2) < 0 ∨ 3200 ≤ ((8 * a1) + a2).toNatClampNeg then none else some ((ar 6 ((8 * a1) + a2).toNatClampNeg), iv, ar)
set_option maxRecDepth 100000 in
set_option maxHeartbeats 4000000 in
theorem kX12_part {a1 a2 : Int32} {iv ivz : mI} {ar arz : mA} {rz : Int32} (hm : mX12_part a1 a2 iv ar = some (rz, ivz, arz)) : Ct l D cI cJ yX12_part cX12_part 3 (some .int) 0 0 [.ref o, .int a1, .int a2] (wM cI o ad iv ar) (wM cI o ad ivz arz) rz := by
  intro sz
  refine ct_of (by decide) (Nat.le_of_ble_eq_true rfl) ?_
  intro p e s m args below meth c C hw ls hl
  have hl : lv_has ls 3 [(0, .ref o), (1, .int a1), (2, .int a2)] := hl
  have hx := C.1.1
  have hb := C.1.2.1
  unfold mX12_part at hm
  refine lv_aload_n hx hb dX12_part_0 rfl (lv_at hl 0 rfl) ?_
  refine g_get C hw gM_6 dX12_part_1 ?_
  refine lv_bipush (v := 8) hx hb dX12_part_4 cb_8 ?_
  refine lv_iload_n hx hb dX12_part_6 rfl (lv_at hl 1 rfl) ?_
  refine lv_imul hx hb dX12_part_7 ?_
  refine lv_iload_n hx hb dX12_part_8 rfl (lv_at hl 2 rfl) ?_
  refine lv_iadd hx hb dX12_part_9 ?_
  obtain ⟨hi, hm⟩ := it_a hm
  refine g_ald C hw aM_6 hi dX12_part_10 ?_
  cases hm
  exact g_iret C hw dX12_part_11
def mX12_fail (a1 : Int32) (a2 : Int32) (iv : mI) (ar : mA) : Option (Int32 × mI × mA) := some (a1, va_up (va_up iv 24 a1) 2 a2, ar)
set_option maxRecDepth 100000 in
set_option maxHeartbeats 4000000 in
theorem kX12_fail {a1 a2 : Int32} {iv ivz : mI} {ar arz : mA} {rz : Int32} (hm : mX12_fail a1 a2 iv ar = some (rz, ivz, arz)) : Ct l D cI cJ yX12_fail cX12_fail 3 (some .int) 0 0 [.ref o, .int a1, .int a2] (wM cI o ad iv ar) (wM cI o ad ivz arz) rz := by
  intro sz
  refine ct_of (by decide) (Nat.le_of_ble_eq_true rfl) ?_
  intro p e s m args below meth c C hw ls hl
  have hl : lv_has ls 3 [(0, .ref o), (1, .int a1), (2, .int a2)] := hl
  have hx := C.1.1
  have hb := C.1.2.1
  unfold mX12_fail at hm
  refine lv_aload_n hx hb dX12_fail_0 rfl (lv_at hl 0 rfl) ?_
  refine lv_iload_n hx hb dX12_fail_1 rfl (lv_at hl 1 rfl) ?_
  refine g_put C hw pM_24 dX12_fail_2 (fun H locs hw => ?_)
  refine lv_aload_n hx hb dX12_fail_5 rfl (lv_at hl 0 rfl) ?_
  refine lv_iload_n hx hb dX12_fail_6 rfl (lv_at hl 2 rfl) ?_
  refine g_put C hw pM_2 dX12_fail_7 (fun H locs hw => ?_)
  refine lv_iload_n hx hb dX12_fail_10 rfl (lv_at hl 1 rfl) ?_
  cases hm
  exact g_iret C hw dX12_fail_11
def mX12_take (a1 : Int32) (a2 : Int32) (iv : mI) (ar : mA) : Option (Int32 × mI × mA) := if (iv 24) = 0 then if (iv 23) = (iv 0) then ob (mX12_fail (-12) (iv 23) iv ar) (fun r27 iv27 ar27 => some (r27, iv27, ar27)) else if (iv 23) < 0 ∨ 200 ≤ (iv 23).toNatClampNeg then none else ob (mX12_in (ar 1 (iv 23).toNatClampNeg) a1 a2 iv ar) (fun r42 iv42 ar42 => if r42 = 0 then ob (mX12_fail (-11) (iv42 23) iv42 ar42) (fun r55 iv55 ar55 => some (r55, iv55, ar55)) else if (((va_up iv42 23 ((iv42 23) + 1)) 23) - 1) < 0 ∨ 200 ≤ (((va_up iv42 23 ((iv42 23) + 1)) 23) - 1).toNatClampNeg then none else some ((ar42 1 (((va_up iv42 23 ((iv42 23) + 1)) 23) - 1).toNatClampNeg), va_up iv42 23 ((iv42 23) + 1), ar42)) else some ((-1), iv, ar)
set_option maxRecDepth 100000 in
set_option maxHeartbeats 4000000 in
theorem kX12_take {a1 a2 : Int32} {iv ivz : mI} {ar arz : mA} {rz : Int32} (hm : mX12_take a1 a2 iv ar = some (rz, ivz, arz)) : Ct l D cI cJ yX12_take cX12_take 3 (some .int) 1 22 [.ref o, .int a1, .int a2] (wM cI o ad iv ar) (wM cI o ad ivz arz) rz := by
  intro sz
  refine ct_of (by decide) (Nat.le_of_ble_eq_true rfl) ?_
  intro p e s m args below meth c C hw ls hl
  have hl : lv_has ls 3 [(0, .ref o), (1, .int a1), (2, .int a2)] := hl
  have hx := C.1.1
  have hb := C.1.2.1
  unfold mX12_take at hm
  refine lv_aload_n hx hb dX12_take_0 rfl (lv_at hl 0 rfl) ?_
  refine g_get C hw gM_24 dX12_take_1 ?_
  refine lv_if_eq (tgt := 9) hx hb dX12_take_4 (by decide) (fun hc => ?_) (fun hc => ?_)
  · have hm := it_t hc hm
    refine lv_aload_n hx hb dX12_take_9 rfl (lv_at hl 0 rfl) ?_
    refine g_get C hw gM_23 dX12_take_10 ?_
    refine lv_aload_n hx hb dX12_take_13 rfl (lv_at hl 0 rfl) ?_
    refine g_get C hw gM_0 dX12_take_14 ?_
    refine lv_icmp_ne (tgt := 31) hx hb dX12_take_17 (by decide) (fun hc => ?_) (fun hc => ?_)
    · have hm := it_f hc hm
      refine lv_aload_n hx hb dX12_take_31 rfl (lv_at hl 0 rfl) ?_
      refine g_get C hw gM_1 dX12_take_32 ?_
      refine lv_aload_n hx hb dX12_take_35 rfl (lv_at hl 0 rfl) ?_
      refine g_get C hw gM_23 dX12_take_36 ?_
      obtain ⟨hi, hm⟩ := it_a hm
      refine g_ald C hw aM_1 hi dX12_take_39 ?_
      refine lv_iload_n hx hb dX12_take_40 rfl (lv_at hl 1 rfl) ?_
      refine lv_iload_n hx hb dX12_take_41 rfl (lv_at hl 2 rfl) ?_
      obtain ⟨r42, iv42, ar42, hc42, hm⟩ := ob_some hm
      refine g_calls (As := [.int (ar 1 (iv 23).toNatClampNeg), .int a1, .int a2]) (rest := []) C hw (kX12_in hc42) stX12_in lkX12_184 hl.1 rfl rfl (Nat.le_of_ble_eq_true rfl) ⟨Nat.le_of_ble_eq_true rfl, Nat.le_of_ble_eq_true rfl⟩ dX12_take_42 ⟨Nat.zero_le _, Nat.zero_le _⟩ (fun H locs hw => ?_)
      refine lv_if_ne (tgt := 59) hx hb dX12_take_45 (by decide) (fun hc => ?_) (fun hc => ?_)
      · have hm := it_f hc hm
        refine lv_aload_n hx hb dX12_take_59 rfl (lv_at hl 0 rfl) ?_
        refine lv_dup hx hb dX12_take_60 rfl ?_
        refine g_get C hw gM_23 dX12_take_61 ?_
        refine lv_iconst (v := 1) hx hb dX12_take_64 ci_1 ?_
        refine lv_iadd hx hb dX12_take_65 ?_
        refine g_put C hw pM_23 dX12_take_66 (fun H locs hw => ?_)
        refine lv_aload_n hx hb dX12_take_69 rfl (lv_at hl 0 rfl) ?_
        refine g_get C hw gM_1 dX12_take_70 ?_
        refine lv_aload_n hx hb dX12_take_73 rfl (lv_at hl 0 rfl) ?_
        refine g_get C hw gM_23 dX12_take_74 ?_
        refine lv_iconst (v := 1) hx hb dX12_take_77 ci_1 ?_
        refine lv_isub hx hb dX12_take_78 ?_
        obtain ⟨hi, hm⟩ := it_a hm
        refine g_ald C hw aM_1 hi dX12_take_79 ?_
        cases hm
        exact g_iret C hw dX12_take_80
      · have hm := it_t hc hm
        refine lv_aload_n hx hb dX12_take_48 rfl (lv_at hl 0 rfl) ?_
        refine lv_bipush (v := (-11)) hx hb dX12_take_49 cb_m11 ?_
        refine lv_aload_n hx hb dX12_take_51 rfl (lv_at hl 0 rfl) ?_
        refine g_get C hw gM_23 dX12_take_52 ?_
        obtain ⟨r55, iv55, ar55, hc55, hm⟩ := ob_some hm
        refine g_calli (As := [.int (-11), .int (iv42 23)]) (rest := []) C hw (kX12_fail hc55) mtX12_fail lkX12_207 oM hl.1 rfl rfl (Nat.le_of_ble_eq_true rfl) ⟨Nat.le_of_ble_eq_true rfl, Nat.le_of_ble_eq_true rfl⟩ dX12_take_55 ⟨Nat.zero_le _, Nat.zero_le _⟩ (fun H locs hw => ?_)
        cases hm
        exact g_iret C hw dX12_take_58
    · have hm := it_t hc hm
      refine lv_aload_n hx hb dX12_take_20 rfl (lv_at hl 0 rfl) ?_
      refine lv_bipush (v := (-12)) hx hb dX12_take_21 cb_m12 ?_
      refine lv_aload_n hx hb dX12_take_23 rfl (lv_at hl 0 rfl) ?_
      refine g_get C hw gM_23 dX12_take_24 ?_
      obtain ⟨r27, iv27, ar27, hc27, hm⟩ := ob_some hm
      refine g_calli (As := [.int (-12), .int (iv 23)]) (rest := []) C hw (kX12_fail hc27) mtX12_fail lkX12_207 oM hl.1 rfl rfl (Nat.le_of_ble_eq_true rfl) ⟨Nat.le_of_ble_eq_true rfl, Nat.le_of_ble_eq_true rfl⟩ dX12_take_27 ⟨Nat.zero_le _, Nat.zero_le _⟩ (fun H locs hw => ?_)
      cases hm
      exact g_iret C hw dX12_take_30
  · have hm := it_f hc hm
    refine lv_iconst (v := (-1)) hx hb dX12_take_7 ci_m1 ?_
    cases hm
    exact g_iret C hw dX12_take_8
def mX12_pushFrame (a1 : Int32) (a2 : Int32) (a3 : Int32) (iv : mI) (ar : mA) : Option (Int32 × mI × mA) := if (iv 29) < 0 ∨ 220 ≤ (iv 29).toNatClampNeg then none else if (iv 29) < 0 ∨ 220 ≤ (iv 29).toNatClampNeg then none else if (iv 29) < 0 ∨ 220 ≤ (iv 29).toNatClampNeg then none else if (iv 29) < 0 ∨ 220 ≤ (iv 29).toNatClampNeg then none else some (0, va_up iv 29 ((iv 29) + 1), au (au (au (au ar 25 (iv 29).toNatClampNeg a1) 26 (iv 29).toNatClampNeg a2) 27 (iv 29).toNatClampNeg a3) 28 (iv 29).toNatClampNeg (-1))
set_option maxRecDepth 100000 in
set_option maxHeartbeats 4000000 in
theorem kX12_pushFrame {a1 a2 a3 : Int32} {iv ivz : mI} {ar arz : mA} {rz : Int32} (hm : mX12_pushFrame a1 a2 a3 iv ar = some (rz, ivz, arz)) : CtV l D cI cJ yX12_pushFrame cX12_pushFrame 4 0 0 [.ref o, .int a1, .int a2, .int a3] (wM cI o ad iv ar) (wM cI o ad ivz arz) := by
  intro sz
  refine ct_of (by decide) (Nat.le_of_ble_eq_true rfl) ?_
  intro p e s m args below meth c C hw ls hl
  have hl : lv_has ls 4 [(0, .ref o), (1, .int a1), (2, .int a2), (3, .int a3)] := hl
  have hx := C.1.1
  have hb := C.1.2.1
  unfold mX12_pushFrame at hm
  refine lv_aload_n hx hb dX12_pushFrame_0 rfl (lv_at hl 0 rfl) ?_
  refine g_get C hw gM_25 dX12_pushFrame_1 ?_
  refine lv_aload_n hx hb dX12_pushFrame_4 rfl (lv_at hl 0 rfl) ?_
  refine g_get C hw gM_29 dX12_pushFrame_5 ?_
  refine lv_iload_n hx hb dX12_pushFrame_8 rfl (lv_at hl 1 rfl) ?_
  obtain ⟨hi, hm⟩ := it_a hm
  refine g_ast C hw sM_25 hi dX12_pushFrame_9 (fun H locs hw => ?_)
  refine lv_aload_n hx hb dX12_pushFrame_10 rfl (lv_at hl 0 rfl) ?_
  refine g_get C hw gM_26 dX12_pushFrame_11 ?_
  refine lv_aload_n hx hb dX12_pushFrame_14 rfl (lv_at hl 0 rfl) ?_
  refine g_get C hw gM_29 dX12_pushFrame_15 ?_
  refine lv_iload_n hx hb dX12_pushFrame_18 rfl (lv_at hl 2 rfl) ?_
  obtain ⟨hi, hm⟩ := it_a hm
  refine g_ast C hw sM_26 hi dX12_pushFrame_19 (fun H locs hw => ?_)
  refine lv_aload_n hx hb dX12_pushFrame_20 rfl (lv_at hl 0 rfl) ?_
  refine g_get C hw gM_27 dX12_pushFrame_21 ?_
  refine lv_aload_n hx hb dX12_pushFrame_24 rfl (lv_at hl 0 rfl) ?_
  refine g_get C hw gM_29 dX12_pushFrame_25 ?_
  refine lv_iload_n hx hb dX12_pushFrame_28 rfl (lv_at hl 3 rfl) ?_
  obtain ⟨hi, hm⟩ := it_a hm
  refine g_ast C hw sM_27 hi dX12_pushFrame_29 (fun H locs hw => ?_)
  refine lv_aload_n hx hb dX12_pushFrame_30 rfl (lv_at hl 0 rfl) ?_
  refine g_get C hw gM_28 dX12_pushFrame_31 ?_
  refine lv_aload_n hx hb dX12_pushFrame_34 rfl (lv_at hl 0 rfl) ?_
  refine g_get C hw gM_29 dX12_pushFrame_35 ?_
  refine lv_iconst (v := (-1)) hx hb dX12_pushFrame_38 ci_m1 ?_
  obtain ⟨hi, hm⟩ := it_a hm
  refine g_ast C hw sM_28 hi dX12_pushFrame_39 (fun H locs hw => ?_)
  refine lv_aload_n hx hb dX12_pushFrame_40 rfl (lv_at hl 0 rfl) ?_
  refine lv_dup hx hb dX12_pushFrame_41 rfl ?_
  refine g_get C hw gM_29 dX12_pushFrame_42 ?_
  refine lv_iconst (v := 1) hx hb dX12_pushFrame_45 ci_1 ?_
  refine lv_iadd hx hb dX12_pushFrame_46 ?_
  refine g_put C hw pM_29 dX12_pushFrame_47 (fun H locs hw => ?_)
  cases hm
  exact g_vret C hw dX12_pushFrame_50
def mX12_takeLabel  (iv : mI) (ar : mA) : Option (Int32 × mI × mA) := if ((iv 29) - 1) < 0 ∨ 220 ≤ ((iv 29) - 1).toNatClampNeg then none else if (ar 25 ((iv 29) - 1).toNatClampNeg) < 0 ∨ 400 ≤ (ar 25 ((iv 29) - 1).toNatClampNeg).toNatClampNeg then none else if (ar 4 (ar 25 ((iv 29) - 1).toNatClampNeg).toNatClampNeg) = 4 then if ((iv 29) - 1) < 0 ∨ 220 ≤ ((iv 29) - 1).toNatClampNeg then none else if ((iv 29) - 1) < 0 ∨ 220 ≤ ((iv 29) - 1).toNatClampNeg then none else some (0, iv, au ar 28 ((iv 29) - 1).toNatClampNeg ((ar 28 ((iv 29) - 1).toNatClampNeg) + 1)) else if ((iv 29) - 1) < 0 ∨ 220 ≤ ((iv 29) - 1).toNatClampNeg then none else ob (mX12_take ((ar 28 ((iv 29) - 1).toNatClampNeg) + 1) 7 iv ar) (fun r53 iv53 ar53 => if ((iv 29) - 1) < 0 ∨ 220 ≤ ((iv 29) - 1).toNatClampNeg then none else if (iv53 24) = 0 then if ((iv 29) - 1) < 0 ∨ 220 ≤ ((iv 29) - 1).toNatClampNeg then none else if ((au ar53 28 ((iv 29) - 1).toNatClampNeg r53) 25 ((iv 29) - 1).toNatClampNeg) < 0 ∨ 400 ≤ ((au ar53 28 ((iv 29) - 1).toNatClampNeg r53) 25 ((iv 29) - 1).toNatClampNeg).toNatClampNeg then none else if ((iv 29) - 1) < 0 ∨ 220 ≤ ((iv 29) - 1).toNatClampNeg then none else if ((au ar53 28 ((iv 29) - 1).toNatClampNeg r53) 25 ((iv 29) - 1).toNatClampNeg) < 0 ∨ 400 ≤ ((au ar53 28 ((iv 29) - 1).toNatClampNeg r53) 25 ((iv 29) - 1).toNatClampNeg).toNatClampNeg then none else some (0, iv53, au (au ar53 28 ((iv 29) - 1).toNatClampNeg r53) 5 ((au ar53 28 ((iv 29) - 1).toNatClampNeg r53) 25 ((iv 29) - 1).toNatClampNeg).toNatClampNeg (((au ar53 28 ((iv 29) - 1).toNatClampNeg r53) 5 ((au ar53 28 ((iv 29) - 1).toNatClampNeg r53) 25 ((iv 29) - 1).toNatClampNeg).toNatClampNeg) ||| (1 <<< (((au ar53 28 ((iv 29) - 1).toNatClampNeg r53) 28 ((iv 29) - 1).toNatClampNeg) &&& 31)))) else some (0, iv53, au ar53 28 ((iv 29) - 1).toNatClampNeg r53))
set_option maxRecDepth 100000 in
set_option maxHeartbeats 4000000 in
theorem kX12_takeLabel {iv ivz : mI} {ar arz : mA} {rz : Int32} (hm : mX12_takeLabel iv ar = some (rz, ivz, arz)) : CtV l D cI cJ yX12_takeLabel cX12_takeLabel 3 2 44 [.ref o] (wM cI o ad iv ar) (wM cI o ad ivz arz) := by
  intro sz
  refine ct_of (by decide) (Nat.le_of_ble_eq_true rfl) ?_
  intro p e s m args below meth c C hw ls hl
  have hl : lv_has ls 3 [(0, .ref o)] := hl
  have hx := C.1.1
  have hb := C.1.2.1
  unfold mX12_takeLabel at hm
  refine lv_aload_n hx hb dX12_takeLabel_0 rfl (lv_at hl 0 rfl) ?_
  refine g_get C hw gM_29 dX12_takeLabel_1 ?_
  refine lv_iconst (v := 1) hx hb dX12_takeLabel_4 ci_1 ?_
  refine lv_isub hx hb dX12_takeLabel_5 ?_
  refine lv_istore_n (lv' := [(1, .int ((iv 29) - 1)), (0, .ref o)]) hx hb dX12_takeLabel_6 rfl hl (by decide) rfl (fun ls hl => ?_)
  refine lv_aload_n hx hb dX12_takeLabel_7 rfl (lv_at hl 1 rfl) ?_
  refine g_get C hw gM_4 dX12_takeLabel_8 ?_
  refine lv_aload_n hx hb dX12_takeLabel_11 rfl (lv_at hl 1 rfl) ?_
  refine g_get C hw gM_25 dX12_takeLabel_12 ?_
  refine lv_iload_n hx hb dX12_takeLabel_15 rfl (lv_at hl 0 rfl) ?_
  obtain ⟨hi, hm⟩ := it_a hm
  refine g_ald C hw aM_25 hi dX12_takeLabel_16 ?_
  obtain ⟨hi, hm⟩ := it_a hm
  refine g_ald C hw aM_4 hi dX12_takeLabel_17 ?_
  refine lv_istore_n (lv' := [(2, .int (ar 4 (ar 25 ((iv 29) - 1).toNatClampNeg).toNatClampNeg)), (1, .int ((iv 29) - 1)), (0, .ref o)]) hx hb dX12_takeLabel_18 rfl hl (by decide) rfl (fun ls hl => ?_)
  refine lv_iload_n hx hb dX12_takeLabel_19 rfl (lv_at hl 0 rfl) ?_
  refine lv_iconst (v := 4) hx hb dX12_takeLabel_20 ci_4 ?_
  refine lv_icmp_ne (tgt := 37) hx hb dX12_takeLabel_21 (by decide) (fun hc => ?_) (fun hc => ?_)
  · have hm := it_f hc hm
    refine lv_aload_n hx hb dX12_takeLabel_37 rfl (lv_at hl 2 rfl) ?_
    refine g_get C hw gM_28 dX12_takeLabel_38 ?_
    refine lv_iload_n hx hb dX12_takeLabel_41 rfl (lv_at hl 1 rfl) ?_
    refine lv_aload_n hx hb dX12_takeLabel_42 rfl (lv_at hl 2 rfl) ?_
    refine lv_aload_n hx hb dX12_takeLabel_43 rfl (lv_at hl 2 rfl) ?_
    refine g_get C hw gM_28 dX12_takeLabel_44 ?_
    refine lv_iload_n hx hb dX12_takeLabel_47 rfl (lv_at hl 1 rfl) ?_
    obtain ⟨hi, hm⟩ := it_a hm
    refine g_ald C hw aM_28 hi dX12_takeLabel_48 ?_
    refine lv_iconst (v := 1) hx hb dX12_takeLabel_49 ci_1 ?_
    refine lv_iadd hx hb dX12_takeLabel_50 ?_
    refine lv_bipush (v := 7) hx hb dX12_takeLabel_51 cb_7 ?_
    obtain ⟨r53, iv53, ar53, hc53, hm⟩ := ob_some hm
    refine g_calli (As := [.int ((ar 28 ((iv 29) - 1).toNatClampNeg) + 1), .int 7]) (rest := [.int ((iv 29) - 1), .ref (ad 28)]) C hw (kX12_take hc53) mtX12_take lkX12_214 oM hl.1 rfl rfl (Nat.le_of_ble_eq_true rfl) ⟨Nat.le_of_ble_eq_true rfl, Nat.le_of_ble_eq_true rfl⟩ dX12_takeLabel_53 ⟨Nat.zero_le _, Nat.zero_le _⟩ (fun H locs hw => ?_)
    obtain ⟨hi, hm⟩ := it_a hm
    refine g_ast C hw sM_28 hi dX12_takeLabel_56 (fun H locs hw => ?_)
    refine lv_aload_n hx hb dX12_takeLabel_57 rfl (lv_at hl 2 rfl) ?_
    refine g_get C hw gM_24 dX12_takeLabel_58 ?_
    refine lv_if_ne (tgt := 86) hx hb dX12_takeLabel_61 (by decide) (fun hc => ?_) (fun hc => ?_)
    · have hm := it_f hc hm
      cases hm
      exact g_vret C hw dX12_takeLabel_86
    · have hm := it_t hc hm
      refine lv_aload_n hx hb dX12_takeLabel_64 rfl (lv_at hl 2 rfl) ?_
      refine g_get C hw gM_5 dX12_takeLabel_65 ?_
      refine lv_aload_n hx hb dX12_takeLabel_68 rfl (lv_at hl 2 rfl) ?_
      refine g_get C hw gM_25 dX12_takeLabel_69 ?_
      refine lv_iload_n hx hb dX12_takeLabel_72 rfl (lv_at hl 1 rfl) ?_
      obtain ⟨hi, hm⟩ := it_a hm
      refine g_ald C hw aM_25 hi dX12_takeLabel_73 ?_
      refine lv_dup2_11 hx hb dX12_takeLabel_74 rfl rfl ?_
      obtain ⟨hi, hm⟩ := it_a hm
      refine g_ald C hw aM_5 hi dX12_takeLabel_75 ?_
      refine lv_iconst (v := 1) hx hb dX12_takeLabel_76 ci_1 ?_
      refine lv_aload_n hx hb dX12_takeLabel_77 rfl (lv_at hl 2 rfl) ?_
      refine g_get C hw gM_28 dX12_takeLabel_78 ?_
      refine lv_iload_n hx hb dX12_takeLabel_81 rfl (lv_at hl 1 rfl) ?_
      obtain ⟨hi, hm⟩ := it_a hm
      refine g_ald C hw aM_28 hi dX12_takeLabel_82 ?_
      refine lv_ishl hx hb dX12_takeLabel_83 ?_
      refine lv_ior hx hb dX12_takeLabel_84 ?_
      obtain ⟨hi, hm⟩ := it_a hm
      refine g_ast C hw sM_5 hi dX12_takeLabel_85 (fun H locs hw => ?_)
      cases hm
      exact g_vret C hw dX12_takeLabel_86
  · have hm := it_t hc hm
    refine lv_aload_n hx hb dX12_takeLabel_24 rfl (lv_at hl 2 rfl) ?_
    refine g_get C hw gM_28 dX12_takeLabel_25 ?_
    refine lv_iload_n hx hb dX12_takeLabel_28 rfl (lv_at hl 1 rfl) ?_
    refine lv_dup2_11 hx hb dX12_takeLabel_29 rfl rfl ?_
    obtain ⟨hi, hm⟩ := it_a hm
    refine g_ald C hw aM_28 hi dX12_takeLabel_30 ?_
    refine lv_iconst (v := 1) hx hb dX12_takeLabel_31 ci_1 ?_
    refine lv_iadd hx hb dX12_takeLabel_32 ?_
    obtain ⟨hi, hm⟩ := it_a hm
    refine g_ast C hw sM_28 hi dX12_takeLabel_33 (fun H locs hw => ?_)
    refine lv_goto (tgt := 86) hx hb dX12_takeLabel_34 (by decide) ?_
    cases hm
    exact g_vret C hw dX12_takeLabel_86
def mX12_settle_L4 : Nat → Int32 → Int32 → mI → mA → Option (Int32 × mI × mA)
  | 0, _, _, _, _ => none
  | n + 1, l2, l3, iv, ar => if l3 = 0 then some (l2, iv, ar) else if (iv 29) ≤ 0 then some (l2, iv, ar) else if (iv 24) = 0 then if ((iv 29) - 1) < 0 ∨ 220 ≤ ((iv 29) - 1).toNatClampNeg then none else if (ar 26 ((iv 29) - 1).toNatClampNeg) < 0 then if ((iv 29) - 1) < 0 ∨ 220 ≤ ((iv 29) - 1).toNatClampNeg then none else if ((iv 29) - 1) < 0 ∨ 220 ≤ ((iv 29) - 1).toNatClampNeg then none else if ((8 * (ar 25 ((iv 29) - 1).toNatClampNeg)) + (ar 28 ((iv 29) - 1).toNatClampNeg)) < 0 ∨ 3200 ≤ ((8 * (ar 25 ((iv 29) - 1).toNatClampNeg)) + (ar 28 ((iv 29) - 1).toNatClampNeg)).toNatClampNeg then none else if ((iv 29) - 1) < 0 ∨ 220 ≤ ((iv 29) - 1).toNatClampNeg then none else if ((iv 29) - 1) < 0 ∨ 220 ≤ ((iv 29) - 1).toNatClampNeg then none else if ((iv 29) - 1) < 0 ∨ 220 ≤ ((iv 29) - 1).toNatClampNeg then none else if ((au (au ar 6 ((8 * (ar 25 ((iv 29) - 1).toNatClampNeg)) + (ar 28 ((iv 29) - 1).toNatClampNeg)).toNatClampNeg l2) 27 ((iv 29) - 1).toNatClampNeg (((au ar 6 ((8 * (ar 25 ((iv 29) - 1).toNatClampNeg)) + (ar 28 ((iv 29) - 1).toNatClampNeg)).toNatClampNeg l2) 27 ((iv 29) - 1).toNatClampNeg) - 1)) 27 ((iv 29) - 1).toNatClampNeg) ≤ 0 then if ((iv 29) - 1) < 0 ∨ 220 ≤ ((iv 29) - 1).toNatClampNeg then none else mX12_settle_L4 n ((au (au ar 6 ((8 * (ar 25 ((iv 29) - 1).toNatClampNeg)) + (ar 28 ((iv 29) - 1).toNatClampNeg)).toNatClampNeg l2) 27 ((iv 29) - 1).toNatClampNeg (((au ar 6 ((8 * (ar 25 ((iv 29) - 1).toNatClampNeg)) + (ar 28 ((iv 29) - 1).toNatClampNeg)).toNatClampNeg l2) 27 ((iv 29) - 1).toNatClampNeg) - 1)) 25 ((iv 29) - 1).toNatClampNeg) l3 (va_up iv 29 ((iv 29) - 1)) (au (au ar 6 ((8 * (ar 25 ((iv 29) - 1).toNatClampNeg)) + (ar 28 ((iv 29) - 1).toNatClampNeg)).toNatClampNeg l2) 27 ((iv 29) - 1).toNatClampNeg (((au ar 6 ((8 * (ar 25 ((iv 29) - 1).toNatClampNeg)) + (ar 28 ((iv 29) - 1).toNatClampNeg)).toNatClampNeg l2) 27 ((iv 29) - 1).toNatClampNeg) - 1)) else ob (mX12_takeLabel iv (au (au ar 6 ((8 * (ar 25 ((iv 29) - 1).toNatClampNeg)) + (ar 28 ((iv 29) - 1).toNatClampNeg)).toNatClampNeg l2) 27 ((iv 29) - 1).toNatClampNeg (((au ar 6 ((8 * (ar 25 ((iv 29) - 1).toNatClampNeg)) + (ar 28 ((iv 29) - 1).toNatClampNeg)).toNatClampNeg l2) 27 ((iv 29) - 1).toNatClampNeg) - 1))) (fun r99 iv99 ar99 => mX12_settle_L4 n l2 0 iv99 ar99) else mX12_settle_L4 n l2 l3 (va_up iv 29 ((iv 29) - 1)) ar else some (l2, iv, ar)
set_option maxRecDepth 100000 in
set_option maxHeartbeats 4000000 in
theorem wX12_settle_L4 (C : mCx p s m args meth c RX12 cX12_settle 5 (some .int) D cI cJ A) (n : Nat) : ∀ (l2 : Int32) (l3 : Int32) (iv : mI) (ar : mA) (rz : Int32) (ivz : mI) (arz : mA), mX12_settle_L4 n l2 l3 iv ar = some (rz, ivz, arz) → ∀ (H : Heap) (locs : List Loc) (ls : Array Slot), lv_has ls 5 [(0, .ref o), (2, .int l2), (3, .int l3)] → inW D A s (wM cI o ad iv ar) H locs → W p l e (rmO 3 66) s m args below meth c H locs 0 0 (MQ below (ctQ D cI cJ (wM cI o ad ivz arz) A rz) args s 0 0 A) (F0 m 4 ls []) := by
  induction n with
  | zero =>
    intro l2 l3 iv ar rz ivz arz hm H locs ls hl hw
    have hm : (none : Option (Int32 × mI × mA)) = some _ := hm
    cases hm
  | succ n ih =>
    intro l2 l3 iv ar rz ivz arz hm H locs ls hl hw
    have hx := C.1.1
    have hb := C.1.2.1
    unfold mX12_settle_L4 at hm
    refine lv_iload_n hx hb dX12_settle_4 rfl (lv_at hl 2 rfl) ?_
    refine lv_if_eq (tgt := 128) hx hb dX12_settle_5 (by decide) (fun hc => ?_) (fun hc => ?_)
    · have hm := it_t hc hm
      refine lv_iload_n hx hb dX12_settle_128 rfl (lv_at hl 1 rfl) ?_
      cases hm
      exact g_iret C hw dX12_settle_129
    · have hm := it_f hc hm
      refine lv_aload_n hx hb dX12_settle_8 rfl (lv_at hl 0 rfl) ?_
      refine g_get C hw gM_29 dX12_settle_9 ?_
      refine lv_if_le (tgt := 128) hx hb dX12_settle_12 (by decide) (fun hc => ?_) (fun hc => ?_)
      · have hm := it_t hc hm
        refine lv_iload_n hx hb dX12_settle_128 rfl (lv_at hl 1 rfl) ?_
        cases hm
        exact g_iret C hw dX12_settle_129
      · have hm := it_f hc hm
        refine lv_aload_n hx hb dX12_settle_15 rfl (lv_at hl 0 rfl) ?_
        refine g_get C hw gM_24 dX12_settle_16 ?_
        refine lv_if_ne (tgt := 128) hx hb dX12_settle_19 (by decide) (fun hc => ?_) (fun hc => ?_)
        · have hm := it_f hc hm
          refine lv_iload_n hx hb dX12_settle_128 rfl (lv_at hl 1 rfl) ?_
          cases hm
          exact g_iret C hw dX12_settle_129
        · have hm := it_t hc hm
          refine lv_aload_n hx hb dX12_settle_22 rfl (lv_at hl 0 rfl) ?_
          refine g_get C hw gM_29 dX12_settle_23 ?_
          refine lv_iconst (v := 1) hx hb dX12_settle_26 ci_1 ?_
          refine lv_isub hx hb dX12_settle_27 ?_
          refine lv_istore (lv' := [(4, .int ((iv 29) - 1)), (0, .ref o), (2, .int l2), (3, .int l3)]) hx hb dX12_settle_28 hl (by decide) rfl (fun ls hl => ?_)
          refine lv_aload_n hx hb dX12_settle_30 rfl (lv_at hl 1 rfl) ?_
          refine g_get C hw gM_26 dX12_settle_31 ?_
          refine lv_iload hx hb dX12_settle_34 (lv_at hl 0 rfl) ?_
          obtain ⟨hi, hm⟩ := it_a hm
          refine g_ald C hw aM_26 hi dX12_settle_36 ?_
          refine lv_if_lt (tgt := 53) hx hb dX12_settle_37 (by decide) (fun hc => ?_) (fun hc => ?_)
          · have hm := it_t hc hm
            refine lv_aload_n hx hb dX12_settle_53 rfl (lv_at hl 1 rfl) ?_
            refine g_get C hw gM_6 dX12_settle_54 ?_
            refine lv_bipush (v := 8) hx hb dX12_settle_57 cb_8 ?_
            refine lv_aload_n hx hb dX12_settle_59 rfl (lv_at hl 1 rfl) ?_
            refine g_get C hw gM_25 dX12_settle_60 ?_
            refine lv_iload hx hb dX12_settle_63 (lv_at hl 0 rfl) ?_
            obtain ⟨hi, hm⟩ := it_a hm
            refine g_ald C hw aM_25 hi dX12_settle_65 ?_
            refine lv_imul hx hb dX12_settle_66 ?_
            refine lv_aload_n hx hb dX12_settle_67 rfl (lv_at hl 1 rfl) ?_
            refine g_get C hw gM_28 dX12_settle_68 ?_
            refine lv_iload hx hb dX12_settle_71 (lv_at hl 0 rfl) ?_
            obtain ⟨hi, hm⟩ := it_a hm
            refine g_ald C hw aM_28 hi dX12_settle_73 ?_
            refine lv_iadd hx hb dX12_settle_74 ?_
            refine lv_iload_n hx hb dX12_settle_75 rfl (lv_at hl 2 rfl) ?_
            obtain ⟨hi, hm⟩ := it_a hm
            refine g_ast C hw sM_6 hi dX12_settle_76 (fun H locs hw => ?_)
            refine lv_aload_n hx hb dX12_settle_77 rfl (lv_at hl 1 rfl) ?_
            refine g_get C hw gM_27 dX12_settle_78 ?_
            refine lv_iload hx hb dX12_settle_81 (lv_at hl 0 rfl) ?_
            refine lv_dup2_11 hx hb dX12_settle_83 rfl rfl ?_
            obtain ⟨hi, hm⟩ := it_a hm
            refine g_ald C hw aM_27 hi dX12_settle_84 ?_
            refine lv_iconst (v := 1) hx hb dX12_settle_85 ci_1 ?_
            refine lv_isub hx hb dX12_settle_86 ?_
            obtain ⟨hi, hm⟩ := it_a hm
            refine g_ast C hw sM_27 hi dX12_settle_87 (fun H locs hw => ?_)
            refine lv_aload_n hx hb dX12_settle_88 rfl (lv_at hl 1 rfl) ?_
            refine g_get C hw gM_27 dX12_settle_89 ?_
            refine lv_iload hx hb dX12_settle_92 (lv_at hl 0 rfl) ?_
            obtain ⟨hi, hm⟩ := it_a hm
            refine g_ald C hw aM_27 hi dX12_settle_94 ?_
            refine lv_if_le (tgt := 107) hx hb dX12_settle_95 (by decide) (fun hc => ?_) (fun hc => ?_)
            · have hm := it_t hc hm
              refine lv_aload_n hx hb dX12_settle_107 rfl (lv_at hl 1 rfl) ?_
              refine g_get C hw gM_25 dX12_settle_108 ?_
              refine lv_iload hx hb dX12_settle_111 (lv_at hl 0 rfl) ?_
              obtain ⟨hi, hm⟩ := it_a hm
              refine g_ald C hw aM_25 hi dX12_settle_113 ?_
              refine lv_istore_n (lv' := [(2, .int ((au (au ar 6 ((8 * (ar 25 ((iv 29) - 1).toNatClampNeg)) + (ar 28 ((iv 29) - 1).toNatClampNeg)).toNatClampNeg l2) 27 ((iv 29) - 1).toNatClampNeg (((au ar 6 ((8 * (ar 25 ((iv 29) - 1).toNatClampNeg)) + (ar 28 ((iv 29) - 1).toNatClampNeg)).toNatClampNeg l2) 27 ((iv 29) - 1).toNatClampNeg) - 1)) 25 ((iv 29) - 1).toNatClampNeg)), (4, .int ((iv 29) - 1)), (0, .ref o), (3, .int l3)]) hx hb dX12_settle_114 rfl hl (by decide) rfl (fun ls hl => ?_)
              refine lv_aload_n hx hb dX12_settle_115 rfl (lv_at hl 2 rfl) ?_
              refine lv_dup hx hb dX12_settle_116 rfl ?_
              refine g_get C hw gM_29 dX12_settle_117 ?_
              refine lv_iconst (v := 1) hx hb dX12_settle_120 ci_1 ?_
              refine lv_isub hx hb dX12_settle_121 ?_
              refine g_put C hw pM_29 dX12_settle_122 (fun H locs hw => ?_)
              refine lv_goto (tgt := 4) hx hb dX12_settle_125 (by decide) ?_
              exact ih _ _ _ _ _ _ _ hm _ _ _ (lv_sub hl [2, 0, 3] rfl) hw
            · have hm := it_f hc hm
              refine lv_aload_n hx hb dX12_settle_98 rfl (lv_at hl 1 rfl) ?_
              obtain ⟨r99, iv99, ar99, hc99, hm⟩ := ob_some hm
              refine g_callv (As := []) (rest := []) C hw (kX12_takeLabel hc99) mtX12_takeLabel lkX12_217 oM hl.1 rfl rfl (Nat.le_of_ble_eq_true rfl) ⟨Nat.le_of_ble_eq_true rfl, Nat.le_of_ble_eq_true rfl⟩ dX12_settle_99 ⟨Nat.zero_le _, Nat.zero_le _⟩ (fun H locs hw => ?_)
              refine lv_iconst (v := 0) hx hb dX12_settle_102 ci_0 ?_
              refine lv_istore_n (lv' := [(3, .int 0), (4, .int ((iv 29) - 1)), (0, .ref o), (2, .int l2)]) hx hb dX12_settle_103 rfl hl (by decide) rfl (fun ls hl => ?_)
              refine lv_goto (tgt := 125) hx hb dX12_settle_104 (by decide) ?_
              refine lv_goto (tgt := 4) hx hb dX12_settle_125 (by decide) ?_
              exact ih _ _ _ _ _ _ _ hm _ _ _ (lv_sub hl [2, 3, 0] rfl) hw
          · have hm := it_f hc hm
            refine lv_aload_n hx hb dX12_settle_40 rfl (lv_at hl 1 rfl) ?_
            refine lv_dup hx hb dX12_settle_41 rfl ?_
            refine g_get C hw gM_29 dX12_settle_42 ?_
            refine lv_iconst (v := 1) hx hb dX12_settle_45 ci_1 ?_
            refine lv_isub hx hb dX12_settle_46 ?_
            refine g_put C hw pM_29 dX12_settle_47 (fun H locs hw => ?_)
            refine lv_goto (tgt := 125) hx hb dX12_settle_50 (by decide) ?_
            refine lv_goto (tgt := 4) hx hb dX12_settle_125 (by decide) ?_
            exact ih _ _ _ _ _ _ _ hm _ _ _ (lv_sub hl [1, 2, 3] rfl) hw
def mX12_settle (a1 : Int32) (iv : mI) (ar : mA) : Option (Int32 × mI × mA) := mX12_settle_L4 bigF a1 1 iv ar
set_option maxRecDepth 100000 in
set_option maxHeartbeats 4000000 in
theorem kX12_settle {a1 : Int32} {iv ivz : mI} {ar arz : mA} {rz : Int32} (hm : mX12_settle a1 iv ar = some (rz, ivz, arz)) : Ct l D cI cJ yX12_settle cX12_settle 5 (some .int) 3 66 [.ref o, .int a1] (wM cI o ad iv ar) (wM cI o ad ivz arz) rz := by
  intro sz
  refine ct_of (by decide) (Nat.le_of_ble_eq_true rfl) ?_
  intro p e s m args below meth c C hw ls hl
  have hl : lv_has ls 5 [(0, .ref o), (1, .int a1)] := hl
  have hx := C.1.1
  have hb := C.1.2.1
  unfold mX12_settle at hm
  refine lv_iload_n hx hb dX12_settle_0 rfl (lv_at hl 1 rfl) ?_
  refine lv_istore_n (lv' := [(2, .int a1), (0, .ref o), (1, .int a1)]) hx hb dX12_settle_1 rfl hl (by decide) rfl (fun ls hl => ?_)
  refine lv_iconst (v := 1) hx hb dX12_settle_2 ci_1 ?_
  refine lv_istore_n (lv' := [(3, .int 1), (2, .int a1), (0, .ref o), (1, .int a1)]) hx hb dX12_settle_3 rfl hl (by decide) rfl (fun ls hl => ?_)
  exact wX12_settle_L4 C bigF _ _ _ _ _ _ _ hm _ _ _ (lv_sub hl [2, 1, 0] rfl) hw
def mX12_resolve_L7 : Nat → Int32 → Int32 → mI → mA → Option (Int32 × mI × mA)
  | 0, _, _, _, _ => none
  | n + 1, l1, l2, iv, ar => if l2 < 0 then some (0, iv, ar) else if l2 < 0 ∨ 220 ≤ l2.toNatClampNeg then none else if (ar 26 l2.toNatClampNeg) < 0 then some (0, iv, ar) else if l2 < 0 ∨ 220 ≤ l2.toNatClampNeg then none else mX12_resolve_L7 n l1 (l2 + (-1)) iv (au ar 25 l2.toNatClampNeg l1)
set_option maxRecDepth 100000 in
set_option maxHeartbeats 4000000 in
theorem wX12_resolve_L7 (C : mCx p s m args meth c RX12 cX12_resolve 3 none D cI cJ A) (n : Nat) : ∀ (l1 : Int32) (l2 : Int32) (iv : mI) (ar : mA) (rz : Int32) (ivz : mI) (arz : mA), mX12_resolve_L7 n l1 l2 iv ar = some (rz, ivz, arz) → ∀ (H : Heap) (locs : List Loc) (ls : Array Slot), lv_has ls 3 [(0, .ref o), (1, .int l1), (2, .int l2)] → inW D A s (wM cI o ad iv ar) H locs → W p l e (rmO 0 0) s m args below meth c H locs 0 0 (MQ below (ctQv D cI cJ (wM cI o ad ivz arz) A) args s 0 0 A) (F0 m 7 ls []) := by
  induction n with
  | zero =>
    intro l1 l2 iv ar rz ivz arz hm H locs ls hl hw
    have hm : (none : Option (Int32 × mI × mA)) = some _ := hm
    cases hm
  | succ n ih =>
    intro l1 l2 iv ar rz ivz arz hm H locs ls hl hw
    have hx := C.1.1
    have hb := C.1.2.1
    unfold mX12_resolve_L7 at hm
    refine lv_iload_n hx hb dX12_resolve_7 rfl (lv_at hl 2 rfl) ?_
    refine lv_if_lt (tgt := 33) hx hb dX12_resolve_8 (by decide) (fun hc => ?_) (fun hc => ?_)
    · have hm := it_t hc hm
      cases hm
      exact g_vret C hw dX12_resolve_33
    · have hm := it_f hc hm
      refine lv_aload_n hx hb dX12_resolve_11 rfl (lv_at hl 0 rfl) ?_
      refine g_get C hw gM_26 dX12_resolve_12 ?_
      refine lv_iload_n hx hb dX12_resolve_15 rfl (lv_at hl 2 rfl) ?_
      obtain ⟨hi, hm⟩ := it_a hm
      refine g_ald C hw aM_26 hi dX12_resolve_16 ?_
      refine lv_if_lt (tgt := 33) hx hb dX12_resolve_17 (by decide) (fun hc => ?_) (fun hc => ?_)
      · have hm := it_t hc hm
        cases hm
        exact g_vret C hw dX12_resolve_33
      · have hm := it_f hc hm
        refine lv_aload_n hx hb dX12_resolve_20 rfl (lv_at hl 0 rfl) ?_
        refine g_get C hw gM_25 dX12_resolve_21 ?_
        refine lv_iload_n hx hb dX12_resolve_24 rfl (lv_at hl 2 rfl) ?_
        refine lv_iload_n hx hb dX12_resolve_25 rfl (lv_at hl 1 rfl) ?_
        obtain ⟨hi, hm⟩ := it_a hm
        refine g_ast C hw sM_25 hi dX12_resolve_26 (fun H locs hw => ?_)
        refine lv_iinc (v := (l2 + (-1))) (lv' := [(2, .int (l2 + (-1))), (0, .ref o), (1, .int l1)]) hx hb dX12_resolve_27 hl (k := 2) rfl (ii_ ci_m1) (by decide) rfl (fun ls hl => ?_)
        refine lv_goto (tgt := 7) hx hb dX12_resolve_30 (by decide) ?_
        exact ih _ _ _ _ _ _ _ hm _ _ _ (lv_sub hl [1, 2, 0] rfl) hw
def mX12_resolve (a1 : Int32) (iv : mI) (ar : mA) : Option (Int32 × mI × mA) := mX12_resolve_L7 bigF a1 ((iv 29) - 1) iv ar
set_option maxRecDepth 100000 in
set_option maxHeartbeats 4000000 in
theorem kX12_resolve {a1 : Int32} {iv ivz : mI} {ar arz : mA} {rz : Int32} (hm : mX12_resolve a1 iv ar = some (rz, ivz, arz)) : CtV l D cI cJ yX12_resolve cX12_resolve 3 0 0 [.ref o, .int a1] (wM cI o ad iv ar) (wM cI o ad ivz arz) := by
  intro sz
  refine ct_of (by decide) (Nat.le_of_ble_eq_true rfl) ?_
  intro p e s m args below meth c C hw ls hl
  have hl : lv_has ls 3 [(0, .ref o), (1, .int a1)] := hl
  have hx := C.1.1
  have hb := C.1.2.1
  unfold mX12_resolve at hm
  refine lv_aload_n hx hb dX12_resolve_0 rfl (lv_at hl 0 rfl) ?_
  refine g_get C hw gM_29 dX12_resolve_1 ?_
  refine lv_iconst (v := 1) hx hb dX12_resolve_4 ci_1 ?_
  refine lv_isub hx hb dX12_resolve_5 ?_
  refine lv_istore_n (lv' := [(2, .int ((iv 29) - 1)), (0, .ref o), (1, .int a1)]) hx hb dX12_resolve_6 rfl hl (by decide) rfl (fun ls hl => ?_)
  exact wX12_resolve_L7 C bigF _ _ _ _ _ _ _ hm _ _ _ (lv_sub hl [1, 2, 0] rfl) hw
def mX12_readName_J44 (l1 : Int32) (l3 : Int32) (iv : mI) (ar : mA) : Option (Int32 × mI × mA) := if l3 < 0 then ob (mX12_fail (-13) l1 iv ar) (fun r61 iv61 ar61 => some (r61, iv61, ar61)) else if l3 < 0 ∨ 220 ≤ l3.toNatClampNeg then none else if 0 ≤ (ar 25 l3.toNatClampNeg) then if l3 < 0 ∨ 220 ≤ l3.toNatClampNeg then none else ob (mX12_resolve (ar 25 l3.toNatClampNeg) iv ar) (fun r76 iv76 ar76 => some ((ar 25 l3.toNatClampNeg), iv76, ar76)) else ob (mX12_fail (-13) l1 iv ar) (fun r61 iv61 ar61 => some (r61, iv61, ar61))
set_option maxRecDepth 100000 in
set_option maxHeartbeats 4000000 in
theorem wX12_readName_J44 (C : mCx p s m args meth c RX12 cX12_readName 5 (some .int) D cI cJ A) : ∀ (l1 : Int32) (l3 : Int32) (iv : mI) (ar : mA) (rz : Int32) (ivz : mI) (arz : mA), mX12_readName_J44 l1 l3 iv ar = some (rz, ivz, arz) → ∀ (H : Heap) (locs : List Loc) (ls : Array Slot), lv_has ls 5 [(0, .ref o), (1, .int l1), (3, .int l3)] → inW D A s (wM cI o ad iv ar) H locs → W p l e (rmO 2 44) s m args below meth c H locs 0 0 (MQ below (ctQ D cI cJ (wM cI o ad ivz arz) A rz) args s 0 0 A) (F0 m 44 ls []) := by
  intro l1 l3 iv ar rz ivz arz hm H locs ls hl hw
  have hx := C.1.1
  have hb := C.1.2.1
  unfold mX12_readName_J44 at hm
  refine lv_iload_n hx hb dX12_readName_44 rfl (lv_at hl 2 rfl) ?_
  refine lv_if_lt (tgt := 57) hx hb dX12_readName_45 (by decide) (fun hc => ?_) (fun hc => ?_)
  · have hm := it_t hc hm
    refine lv_aload_n hx hb dX12_readName_57 rfl (lv_at hl 0 rfl) ?_
    refine lv_bipush (v := (-13)) hx hb dX12_readName_58 cb_m13 ?_
    refine lv_iload_n hx hb dX12_readName_60 rfl (lv_at hl 1 rfl) ?_
    obtain ⟨r61, iv61, ar61, hc61, hm⟩ := ob_some hm
    refine g_calli (As := [.int (-13), .int l1]) (rest := []) C hw (kX12_fail hc61) mtX12_fail lkX12_207 oM hl.1 rfl rfl (Nat.le_of_ble_eq_true rfl) ⟨Nat.le_of_ble_eq_true rfl, Nat.le_of_ble_eq_true rfl⟩ dX12_readName_61 ⟨Nat.zero_le _, Nat.zero_le _⟩ (fun H locs hw => ?_)
    cases hm
    exact g_iret C hw dX12_readName_64
  · have hm := it_f hc hm
    refine lv_aload_n hx hb dX12_readName_48 rfl (lv_at hl 0 rfl) ?_
    refine g_get C hw gM_25 dX12_readName_49 ?_
    refine lv_iload_n hx hb dX12_readName_52 rfl (lv_at hl 2 rfl) ?_
    obtain ⟨hi, hm⟩ := it_a hm
    refine g_ald C hw aM_25 hi dX12_readName_53 ?_
    refine lv_if_ge (tgt := 65) hx hb dX12_readName_54 (by decide) (fun hc => ?_) (fun hc => ?_)
    · have hm := it_t hc hm
      refine lv_aload_n hx hb dX12_readName_65 rfl (lv_at hl 0 rfl) ?_
      refine g_get C hw gM_25 dX12_readName_66 ?_
      refine lv_iload_n hx hb dX12_readName_69 rfl (lv_at hl 2 rfl) ?_
      obtain ⟨hi, hm⟩ := it_a hm
      refine g_ald C hw aM_25 hi dX12_readName_70 ?_
      refine lv_istore (lv' := [(4, .int (ar 25 l3.toNatClampNeg)), (0, .ref o), (1, .int l1), (3, .int l3)]) hx hb dX12_readName_71 hl (by decide) rfl (fun ls hl => ?_)
      refine lv_aload_n hx hb dX12_readName_73 rfl (lv_at hl 1 rfl) ?_
      refine lv_iload hx hb dX12_readName_74 (lv_at hl 0 rfl) ?_
      obtain ⟨r76, iv76, ar76, hc76, hm⟩ := ob_some hm
      refine g_callv (As := [.int (ar 25 l3.toNatClampNeg)]) (rest := []) C hw (kX12_resolve hc76) mtX12_resolve lkX12_231 oM hl.1 rfl rfl (Nat.le_of_ble_eq_true rfl) ⟨Nat.le_of_ble_eq_true rfl, Nat.le_of_ble_eq_true rfl⟩ dX12_readName_76 ⟨Nat.zero_le _, Nat.zero_le _⟩ (fun H locs hw => ?_)
      refine lv_iload hx hb dX12_readName_79 (lv_at hl 0 rfl) ?_
      cases hm
      exact g_iret C hw dX12_readName_81
    · have hm := it_f hc hm
      refine lv_aload_n hx hb dX12_readName_57 rfl (lv_at hl 0 rfl) ?_
      refine lv_bipush (v := (-13)) hx hb dX12_readName_58 cb_m13 ?_
      refine lv_iload_n hx hb dX12_readName_60 rfl (lv_at hl 1 rfl) ?_
      obtain ⟨r61, iv61, ar61, hc61, hm⟩ := ob_some hm
      refine g_calli (As := [.int (-13), .int l1]) (rest := []) C hw (kX12_fail hc61) mtX12_fail lkX12_207 oM hl.1 rfl rfl (Nat.le_of_ble_eq_true rfl) ⟨Nat.le_of_ble_eq_true rfl, Nat.le_of_ble_eq_true rfl⟩ dX12_readName_61 ⟨Nat.zero_le _, Nat.zero_le _⟩ (fun H locs hw => ?_)
      cases hm
      exact g_iret C hw dX12_readName_64
def mX12_readName_L24 : Nat → Int32 → Int32 → Int32 → mI → mA → Option (Int32 × mI × mA)
  | 0, _, _, _, _, _ => none
  | n + 1, l1, l2, l3, iv, ar => if l3 < 0 then mX12_readName_J44 l1 l3 iv ar else if l3 < 0 ∨ 220 ≤ l3.toNatClampNeg then none else if (ar 26 l3.toNatClampNeg) = l2 then mX12_readName_J44 l1 l3 iv ar else mX12_readName_L24 n l1 l2 (l3 + (-1)) iv ar
set_option maxRecDepth 100000 in
set_option maxHeartbeats 4000000 in
theorem wX12_readName_L24 (C : mCx p s m args meth c RX12 cX12_readName 5 (some .int) D cI cJ A) (n : Nat) : ∀ (l1 : Int32) (l2 : Int32) (l3 : Int32) (iv : mI) (ar : mA) (rz : Int32) (ivz : mI) (arz : mA), mX12_readName_L24 n l1 l2 l3 iv ar = some (rz, ivz, arz) → ∀ (H : Heap) (locs : List Loc) (ls : Array Slot), lv_has ls 5 [(0, .ref o), (1, .int l1), (2, .int l2), (3, .int l3)] → inW D A s (wM cI o ad iv ar) H locs → W p l e (rmO 2 44) s m args below meth c H locs 0 0 (MQ below (ctQ D cI cJ (wM cI o ad ivz arz) A rz) args s 0 0 A) (F0 m 24 ls []) := by
  induction n with
  | zero =>
    intro l1 l2 l3 iv ar rz ivz arz hm H locs ls hl hw
    have hm : (none : Option (Int32 × mI × mA)) = some _ := hm
    cases hm
  | succ n ih =>
    intro l1 l2 l3 iv ar rz ivz arz hm H locs ls hl hw
    have hx := C.1.1
    have hb := C.1.2.1
    unfold mX12_readName_L24 at hm
    refine lv_iload_n hx hb dX12_readName_24 rfl (lv_at hl 3 rfl) ?_
    refine lv_if_lt (tgt := 44) hx hb dX12_readName_25 (by decide) (fun hc => ?_) (fun hc => ?_)
    · have hm := it_t hc hm
      exact wX12_readName_J44 C _ _ _ _ _ _ _ hm _ _ _ (lv_sub hl [0, 1, 3] rfl) hw
    · have hm := it_f hc hm
      refine lv_aload_n hx hb dX12_readName_28 rfl (lv_at hl 0 rfl) ?_
      refine g_get C hw gM_26 dX12_readName_29 ?_
      refine lv_iload_n hx hb dX12_readName_32 rfl (lv_at hl 3 rfl) ?_
      obtain ⟨hi, hm⟩ := it_a hm
      refine g_ald C hw aM_26 hi dX12_readName_33 ?_
      refine lv_iload_n hx hb dX12_readName_34 rfl (lv_at hl 2 rfl) ?_
      refine lv_icmp_eq (tgt := 44) hx hb dX12_readName_35 (by decide) (fun hc => ?_) (fun hc => ?_)
      · have hm := it_t hc hm
        exact wX12_readName_J44 C _ _ _ _ _ _ _ hm _ _ _ (lv_sub hl [0, 1, 3] rfl) hw
      · have hm := it_f hc hm
        refine lv_iinc (v := (l3 + (-1))) (lv' := [(3, .int (l3 + (-1))), (0, .ref o), (1, .int l1), (2, .int l2)]) hx hb dX12_readName_38 hl (k := 3) rfl (ii_ ci_m1) (by decide) rfl (fun ls hl => ?_)
        refine lv_goto (tgt := 24) hx hb dX12_readName_41 (by decide) ?_
        exact ih _ _ _ _ _ _ _ _ hm _ _ _ (lv_sub hl [1, 2, 3, 0] rfl) hw
def mX12_readName (a1 : Int32) (iv : mI) (ar : mA) : Option (Int32 × mI × mA) := ob (mX12_take 0 9 iv ar) (fun r4 iv4 ar4 => if (iv4 24) = 0 then mX12_readName_L24 bigF a1 r4 ((iv4 29) - 1) iv4 ar4 else some ((-1), iv4, ar4))
set_option maxRecDepth 100000 in
set_option maxHeartbeats 4000000 in
theorem kX12_readName {a1 : Int32} {iv ivz : mI} {ar arz : mA} {rz : Int32} (hm : mX12_readName a1 iv ar = some (rz, ivz, arz)) : Ct l D cI cJ yX12_readName cX12_readName 5 (some .int) 2 44 [.ref o, .int a1] (wM cI o ad iv ar) (wM cI o ad ivz arz) rz := by
  intro sz
  refine ct_of (by decide) (Nat.le_of_ble_eq_true rfl) ?_
  intro p e s m args below meth c C hw ls hl
  have hl : lv_has ls 5 [(0, .ref o), (1, .int a1)] := hl
  have hx := C.1.1
  have hb := C.1.2.1
  unfold mX12_readName at hm
  refine lv_aload_n hx hb dX12_readName_0 rfl (lv_at hl 0 rfl) ?_
  refine lv_iconst (v := 0) hx hb dX12_readName_1 ci_0 ?_
  refine lv_bipush (v := 9) hx hb dX12_readName_2 cb_9 ?_
  obtain ⟨r4, iv4, ar4, hc4, hm⟩ := ob_some hm
  refine g_calli (As := [.int 0, .int 9]) (rest := []) C hw (kX12_take hc4) mtX12_take lkX12_214 oM hl.1 rfl rfl (Nat.le_of_ble_eq_true rfl) ⟨Nat.le_of_ble_eq_true rfl, Nat.le_of_ble_eq_true rfl⟩ dX12_readName_4 ⟨Nat.zero_le _, Nat.zero_le _⟩ (fun H locs hw => ?_)
  refine lv_istore_n (lv' := [(2, .int r4), (0, .ref o), (1, .int a1)]) hx hb dX12_readName_7 rfl hl (by decide) rfl (fun ls hl => ?_)
  refine lv_aload_n hx hb dX12_readName_8 rfl (lv_at hl 1 rfl) ?_
  refine g_get C hw gM_24 dX12_readName_9 ?_
  refine lv_if_eq (tgt := 17) hx hb dX12_readName_12 (by decide) (fun hc => ?_) (fun hc => ?_)
  · have hm := it_t hc hm
    refine lv_aload_n hx hb dX12_readName_17 rfl (lv_at hl 1 rfl) ?_
    refine g_get C hw gM_29 dX12_readName_18 ?_
    refine lv_iconst (v := 1) hx hb dX12_readName_21 ci_1 ?_
    refine lv_isub hx hb dX12_readName_22 ?_
    refine lv_istore_n (lv' := [(3, .int ((iv4 29) - 1)), (2, .int r4), (0, .ref o), (1, .int a1)]) hx hb dX12_readName_23 rfl hl (by decide) rfl (fun ls hl => ?_)
    exact wX12_readName_L24 C bigF _ _ _ _ _ _ _ _ hm _ _ _ (lv_sub hl [2, 3, 1, 0] rfl) hw
  · have hm := it_f hc hm
    refine lv_iconst (v := (-1)) hx hb dX12_readName_15 ci_m1 ?_
    cases hm
    exact g_iret C hw dX12_readName_16
def mX12_readWord_J125 (l3 : Int32) (s0 : Int32) (iv : mI) (ar : mA) : Option (Int32 × mI × mA) := if s0 ≤ 0 then some (l3, iv, ar) else if (iv 24) = 0 then ob (mX12_pushFrame l3 (-1) s0 iv ar) (fun r144 iv144 ar144 => ob (mX12_takeLabel iv144 ar144) (fun r148 iv148 ar148 => some ((-1), iv148, ar148))) else some (l3, iv, ar)
set_option maxRecDepth 100000 in
set_option maxHeartbeats 4000000 in
theorem wX12_readWord_J125 (C : mCx p s m args meth c RX12 cX12_readWord 5 (some .int) D cI cJ A) : ∀ (l3 : Int32) (s0 : Int32) (iv : mI) (ar : mA) (rz : Int32) (ivz : mI) (arz : mA), mX12_readWord_J125 l3 s0 iv ar = some (rz, ivz, arz) → ∀ (H : Heap) (locs : List Loc) (ls : Array Slot), lv_has ls 5 [(0, .ref o), (3, .int l3)] → inW D A s (wM cI o ad iv ar) H locs → W p l e (rmO 3 68) s m args below meth c H locs 0 0 (MQ below (ctQ D cI cJ (wM cI o ad ivz arz) A rz) args s 0 0 A) (F0 m 125 ls [.int s0]) := by
  intro l3 s0 iv ar rz ivz arz hm H locs ls hl hw
  have hx := C.1.1
  have hb := C.1.2.1
  unfold mX12_readWord_J125 at hm
  refine lv_istore (lv' := [(4, .int s0), (0, .ref o), (3, .int l3)]) hx hb dX12_readWord_125 hl (by decide) rfl (fun ls hl => ?_)
  refine lv_iload hx hb dX12_readWord_127 (lv_at hl 0 rfl) ?_
  refine lv_if_le (tgt := 153) hx hb dX12_readWord_129 (by decide) (fun hc => ?_) (fun hc => ?_)
  · have hm := it_t hc hm
    refine lv_iload_n hx hb dX12_readWord_153 rfl (lv_at hl 2 rfl) ?_
    cases hm
    exact g_iret C hw dX12_readWord_154
  · have hm := it_f hc hm
    refine lv_aload_n hx hb dX12_readWord_132 rfl (lv_at hl 1 rfl) ?_
    refine g_get C hw gM_24 dX12_readWord_133 ?_
    refine lv_if_ne (tgt := 153) hx hb dX12_readWord_136 (by decide) (fun hc => ?_) (fun hc => ?_)
    · have hm := it_f hc hm
      refine lv_iload_n hx hb dX12_readWord_153 rfl (lv_at hl 2 rfl) ?_
      cases hm
      exact g_iret C hw dX12_readWord_154
    · have hm := it_t hc hm
      refine lv_aload_n hx hb dX12_readWord_139 rfl (lv_at hl 1 rfl) ?_
      refine lv_iload_n hx hb dX12_readWord_140 rfl (lv_at hl 2 rfl) ?_
      refine lv_iconst (v := (-1)) hx hb dX12_readWord_141 ci_m1 ?_
      refine lv_iload hx hb dX12_readWord_142 (lv_at hl 0 rfl) ?_
      obtain ⟨r144, iv144, ar144, hc144, hm⟩ := ob_some hm
      refine g_callv (As := [.int l3, .int (-1), .int s0]) (rest := []) C hw (kX12_pushFrame hc144) mtX12_pushFrame lkX12_220 oM hl.1 rfl rfl (Nat.le_of_ble_eq_true rfl) ⟨Nat.le_of_ble_eq_true rfl, Nat.le_of_ble_eq_true rfl⟩ dX12_readWord_144 ⟨Nat.zero_le _, Nat.zero_le _⟩ (fun H locs hw => ?_)
      refine lv_aload_n hx hb dX12_readWord_147 rfl (lv_at hl 1 rfl) ?_
      obtain ⟨r148, iv148, ar148, hc148, hm⟩ := ob_some hm
      refine g_callv (As := []) (rest := []) C hw (kX12_takeLabel hc148) mtX12_takeLabel lkX12_217 oM hl.1 rfl rfl (Nat.le_of_ble_eq_true rfl) ⟨Nat.le_of_ble_eq_true rfl, Nat.le_of_ble_eq_true rfl⟩ dX12_readWord_148 ⟨Nat.zero_le _, Nat.zero_le _⟩ (fun H locs hw => ?_)
      refine lv_iconst (v := (-1)) hx hb dX12_readWord_151 ci_m1 ?_
      cases hm
      exact g_iret C hw dX12_readWord_152
def mX12_readWord_J90 (l2 : Int32) (s0 : Int32) (iv : mI) (ar : mA) : Option (Int32 × mI × mA) := ob (mX12_newNode s0 0 iv ar) (fun r91 iv91 ar91 => ob (mX12_resolve r91 iv91 ar91) (fun r97 iv97 ar97 => if 5 ≤ l2 then if l2 = 5 then mX12_readWord_J125 r91 2 iv97 ar97 else ob (mX12_take 0 8 iv97 ar97) (fun r122 iv122 ar122 => mX12_readWord_J125 r91 r122 iv122 ar122) else mX12_readWord_J125 r91 0 iv97 ar97))
set_option maxRecDepth 100000 in
set_option maxHeartbeats 4000000 in
theorem wX12_readWord_J90 (C : mCx p s m args meth c RX12 cX12_readWord 5 (some .int) D cI cJ A) : ∀ (l2 : Int32) (s0 : Int32) (iv : mI) (ar : mA) (rz : Int32) (ivz : mI) (arz : mA), mX12_readWord_J90 l2 s0 iv ar = some (rz, ivz, arz) → ∀ (H : Heap) (locs : List Loc) (ls : Array Slot), lv_has ls 5 [(0, .ref o), (2, .int l2)] → inW D A s (wM cI o ad iv ar) H locs → W p l e (rmO 3 68) s m args below meth c H locs 0 0 (MQ below (ctQ D cI cJ (wM cI o ad ivz arz) A rz) args s 0 0 A) (F0 m 90 ls [.int s0, .ref o]) := by
  intro l2 s0 iv ar rz ivz arz hm H locs ls hl hw
  have hx := C.1.1
  have hb := C.1.2.1
  unfold mX12_readWord_J90 at hm
  refine lv_iconst (v := 0) hx hb dX12_readWord_90 ci_0 ?_
  obtain ⟨r91, iv91, ar91, hc91, hm⟩ := ob_some hm
  refine g_calli (As := [.int s0, .int 0]) (rest := []) C hw (kX12_newNode hc91) mtX12_newNode lkX12_228 oM hl.1 rfl rfl (Nat.le_of_ble_eq_true rfl) ⟨Nat.le_of_ble_eq_true rfl, Nat.le_of_ble_eq_true rfl⟩ dX12_readWord_91 ⟨Nat.zero_le _, Nat.zero_le _⟩ (fun H locs hw => ?_)
  refine lv_istore_n (lv' := [(3, .int r91), (0, .ref o), (2, .int l2)]) hx hb dX12_readWord_94 rfl hl (by decide) rfl (fun ls hl => ?_)
  refine lv_aload_n hx hb dX12_readWord_95 rfl (lv_at hl 1 rfl) ?_
  refine lv_iload_n hx hb dX12_readWord_96 rfl (lv_at hl 0 rfl) ?_
  obtain ⟨r97, iv97, ar97, hc97, hm⟩ := ob_some hm
  refine g_callv (As := [.int r91]) (rest := []) C hw (kX12_resolve hc97) mtX12_resolve lkX12_231 oM hl.1 rfl rfl (Nat.le_of_ble_eq_true rfl) ⟨Nat.le_of_ble_eq_true rfl, Nat.le_of_ble_eq_true rfl⟩ dX12_readWord_97 ⟨Nat.zero_le _, Nat.zero_le _⟩ (fun H locs hw => ?_)
  refine lv_iload_n hx hb dX12_readWord_100 rfl (lv_at hl 2 rfl) ?_
  refine lv_iconst (v := 5) hx hb dX12_readWord_101 ci_5 ?_
  refine lv_icmp_ge (tgt := 109) hx hb dX12_readWord_102 (by decide) (fun hc => ?_) (fun hc => ?_)
  · have hm := it_t hc hm
    refine lv_iload_n hx hb dX12_readWord_109 rfl (lv_at hl 2 rfl) ?_
    refine lv_iconst (v := 5) hx hb dX12_readWord_110 ci_5 ?_
    refine lv_icmp_ne (tgt := 118) hx hb dX12_readWord_111 (by decide) (fun hc => ?_) (fun hc => ?_)
    · have hm := it_f hc hm
      refine lv_aload_n hx hb dX12_readWord_118 rfl (lv_at hl 1 rfl) ?_
      refine lv_iconst (v := 0) hx hb dX12_readWord_119 ci_0 ?_
      refine lv_bipush (v := 8) hx hb dX12_readWord_120 cb_8 ?_
      obtain ⟨r122, iv122, ar122, hc122, hm⟩ := ob_some hm
      refine g_calli (As := [.int 0, .int 8]) (rest := []) C hw (kX12_take hc122) mtX12_take lkX12_214 oM hl.1 rfl rfl (Nat.le_of_ble_eq_true rfl) ⟨Nat.le_of_ble_eq_true rfl, Nat.le_of_ble_eq_true rfl⟩ dX12_readWord_122 ⟨Nat.zero_le _, Nat.zero_le _⟩ (fun H locs hw => ?_)
      exact wX12_readWord_J125 C _ _ _ _ _ _ _ hm _ _ _ (lv_sub hl [1, 0] rfl) hw
    · have hm := it_t hc hm
      refine lv_iconst (v := 2) hx hb dX12_readWord_114 ci_2 ?_
      refine lv_goto (tgt := 125) hx hb dX12_readWord_115 (by decide) ?_
      exact wX12_readWord_J125 C _ _ _ _ _ _ _ hm _ _ _ (lv_sub hl [1, 0] rfl) hw
  · have hm := it_f hc hm
    refine lv_iconst (v := 0) hx hb dX12_readWord_105 ci_0 ?_
    refine lv_goto (tgt := 125) hx hb dX12_readWord_106 (by decide) ?_
    exact wX12_readWord_J125 C _ _ _ _ _ _ _ hm _ _ _ (lv_sub hl [1, 0] rfl) hw
def mX12_readWord  (iv : mI) (ar : mA) : Option (Int32 × mI × mA) := ob (mX12_take 1 9 iv ar) (fun r9 iv9 ar9 => if r9 = 8 then ob (mX12_take 0 9 iv9 ar9) (fun r23 iv23 ar23 => ob (mX12_pushFrame (-1) r23 0 iv23 ar23) (fun r31 iv31 ar31 => some ((-1), iv31, ar31))) else if r9 = 9 then ob (mX12_readName (iv 23) iv9 ar9) (fun r44 iv44 ar44 => some (r44, iv44, ar44)) else if (iv9 24) = 0 then if 5 ≤ r9 then if r9 = 5 then mX12_readWord_J90 r9 4 iv9 ar9 else if r9 = 6 then mX12_readWord_J90 r9 5 iv9 ar9 else mX12_readWord_J90 r9 6 iv9 ar9 else mX12_readWord_J90 r9 (r9 - 1) iv9 ar9 else some ((-1), iv9, ar9))
set_option maxRecDepth 100000 in
set_option maxHeartbeats 4000000 in
theorem kX12_readWord {iv ivz : mI} {ar arz : mA} {rz : Int32} (hm : mX12_readWord iv ar = some (rz, ivz, arz)) : Ct l D cI cJ yX12_readWord cX12_readWord 5 (some .int) 3 68 [.ref o] (wM cI o ad iv ar) (wM cI o ad ivz arz) rz := by
  intro sz
  refine ct_of (by decide) (Nat.le_of_ble_eq_true rfl) ?_
  intro p e s m args below meth c C hw ls hl
  have hl : lv_has ls 5 [(0, .ref o)] := hl
  have hx := C.1.1
  have hb := C.1.2.1
  unfold mX12_readWord at hm
  refine lv_aload_n hx hb dX12_readWord_0 rfl (lv_at hl 0 rfl) ?_
  refine g_get C hw gM_23 dX12_readWord_1 ?_
  refine lv_istore_n (lv' := [(1, .int (iv 23)), (0, .ref o)]) hx hb dX12_readWord_4 rfl hl (by decide) rfl (fun ls hl => ?_)
  refine lv_aload_n hx hb dX12_readWord_5 rfl (lv_at hl 1 rfl) ?_
  refine lv_iconst (v := 1) hx hb dX12_readWord_6 ci_1 ?_
  refine lv_bipush (v := 9) hx hb dX12_readWord_7 cb_9 ?_
  obtain ⟨r9, iv9, ar9, hc9, hm⟩ := ob_some hm
  refine g_calli (As := [.int 1, .int 9]) (rest := []) C hw (kX12_take hc9) mtX12_take lkX12_214 oM hl.1 rfl rfl (Nat.le_of_ble_eq_true rfl) ⟨Nat.le_of_ble_eq_true rfl, Nat.le_of_ble_eq_true rfl⟩ dX12_readWord_9 ⟨Nat.zero_le _, Nat.zero_le _⟩ (fun H locs hw => ?_)
  refine lv_istore_n (lv' := [(2, .int r9), (1, .int (iv 23)), (0, .ref o)]) hx hb dX12_readWord_12 rfl hl (by decide) rfl (fun ls hl => ?_)
  refine lv_iload_n hx hb dX12_readWord_13 rfl (lv_at hl 0 rfl) ?_
  refine lv_bipush (v := 8) hx hb dX12_readWord_14 cb_8 ?_
  refine lv_icmp_ne (tgt := 36) hx hb dX12_readWord_16 (by decide) (fun hc => ?_) (fun hc => ?_)
  · have hm := it_f hc hm
    refine lv_iload_n hx hb dX12_readWord_36 rfl (lv_at hl 0 rfl) ?_
    refine lv_bipush (v := 9) hx hb dX12_readWord_37 cb_9 ?_
    refine lv_icmp_ne (tgt := 48) hx hb dX12_readWord_39 (by decide) (fun hc => ?_) (fun hc => ?_)
    · have hm := it_f hc hm
      refine lv_aload_n hx hb dX12_readWord_48 rfl (lv_at hl 2 rfl) ?_
      refine g_get C hw gM_24 dX12_readWord_49 ?_
      refine lv_if_eq (tgt := 57) hx hb dX12_readWord_52 (by decide) (fun hc => ?_) (fun hc => ?_)
      · have hm := it_t hc hm
        refine lv_aload_n hx hb dX12_readWord_57 rfl (lv_at hl 2 rfl) ?_
        refine lv_iload_n hx hb dX12_readWord_58 rfl (lv_at hl 0 rfl) ?_
        refine lv_iconst (v := 5) hx hb dX12_readWord_59 ci_5 ?_
        refine lv_icmp_ge (tgt := 69) hx hb dX12_readWord_60 (by decide) (fun hc => ?_) (fun hc => ?_)
        · have hm := it_t hc hm
          refine lv_iload_n hx hb dX12_readWord_69 rfl (lv_at hl 0 rfl) ?_
          refine lv_iconst (v := 5) hx hb dX12_readWord_70 ci_5 ?_
          refine lv_icmp_ne (tgt := 78) hx hb dX12_readWord_71 (by decide) (fun hc => ?_) (fun hc => ?_)
          · have hm := it_f hc hm
            refine lv_iload_n hx hb dX12_readWord_78 rfl (lv_at hl 0 rfl) ?_
            refine lv_bipush (v := 6) hx hb dX12_readWord_79 cb_6 ?_
            refine lv_icmp_ne (tgt := 88) hx hb dX12_readWord_81 (by decide) (fun hc => ?_) (fun hc => ?_)
            · have hm := it_f hc hm
              refine lv_bipush (v := 6) hx hb dX12_readWord_88 cb_6 ?_
              exact wX12_readWord_J90 C _ _ _ _ _ _ _ hm _ _ _ (lv_sub hl [2, 0] rfl) hw
            · have hm := it_t hc hm
              refine lv_iconst (v := 5) hx hb dX12_readWord_84 ci_5 ?_
              refine lv_goto (tgt := 90) hx hb dX12_readWord_85 (by decide) ?_
              exact wX12_readWord_J90 C _ _ _ _ _ _ _ hm _ _ _ (lv_sub hl [2, 0] rfl) hw
          · have hm := it_t hc hm
            refine lv_iconst (v := 4) hx hb dX12_readWord_74 ci_4 ?_
            refine lv_goto (tgt := 90) hx hb dX12_readWord_75 (by decide) ?_
            exact wX12_readWord_J90 C _ _ _ _ _ _ _ hm _ _ _ (lv_sub hl [2, 0] rfl) hw
        · have hm := it_f hc hm
          refine lv_iload_n hx hb dX12_readWord_63 rfl (lv_at hl 0 rfl) ?_
          refine lv_iconst (v := 1) hx hb dX12_readWord_64 ci_1 ?_
          refine lv_isub hx hb dX12_readWord_65 ?_
          refine lv_goto (tgt := 90) hx hb dX12_readWord_66 (by decide) ?_
          exact wX12_readWord_J90 C _ _ _ _ _ _ _ hm _ _ _ (lv_sub hl [2, 0] rfl) hw
      · have hm := it_f hc hm
        refine lv_iconst (v := (-1)) hx hb dX12_readWord_55 ci_m1 ?_
        cases hm
        exact g_iret C hw dX12_readWord_56
    · have hm := it_t hc hm
      refine lv_aload_n hx hb dX12_readWord_42 rfl (lv_at hl 2 rfl) ?_
      refine lv_iload_n hx hb dX12_readWord_43 rfl (lv_at hl 1 rfl) ?_
      obtain ⟨r44, iv44, ar44, hc44, hm⟩ := ob_some hm
      refine g_calli (As := [.int (iv 23)]) (rest := []) C hw (kX12_readName hc44) mtX12_readName lkX12_224 oM hl.1 rfl rfl (Nat.le_of_ble_eq_true rfl) ⟨Nat.le_of_ble_eq_true rfl, Nat.le_of_ble_eq_true rfl⟩ dX12_readWord_44 ⟨Nat.zero_le _, Nat.zero_le _⟩ (fun H locs hw => ?_)
      cases hm
      exact g_iret C hw dX12_readWord_47
  · have hm := it_t hc hm
    refine lv_aload_n hx hb dX12_readWord_19 rfl (lv_at hl 2 rfl) ?_
    refine lv_iconst (v := 0) hx hb dX12_readWord_20 ci_0 ?_
    refine lv_bipush (v := 9) hx hb dX12_readWord_21 cb_9 ?_
    obtain ⟨r23, iv23, ar23, hc23, hm⟩ := ob_some hm
    refine g_calli (As := [.int 0, .int 9]) (rest := []) C hw (kX12_take hc23) mtX12_take lkX12_214 oM hl.1 rfl rfl (Nat.le_of_ble_eq_true rfl) ⟨Nat.le_of_ble_eq_true rfl, Nat.le_of_ble_eq_true rfl⟩ dX12_readWord_23 ⟨Nat.zero_le _, Nat.zero_le _⟩ (fun H locs hw => ?_)
    refine lv_istore_n (lv' := [(3, .int r23), (2, .int r9), (1, .int (iv 23)), (0, .ref o)]) hx hb dX12_readWord_26 rfl hl (by decide) rfl (fun ls hl => ?_)
    refine lv_aload_n hx hb dX12_readWord_27 rfl (lv_at hl 3 rfl) ?_
    refine lv_iconst (v := (-1)) hx hb dX12_readWord_28 ci_m1 ?_
    refine lv_iload_n hx hb dX12_readWord_29 rfl (lv_at hl 0 rfl) ?_
    refine lv_iconst (v := 0) hx hb dX12_readWord_30 ci_0 ?_
    obtain ⟨r31, iv31, ar31, hc31, hm⟩ := ob_some hm
    refine g_callv (As := [.int (-1), .int r23, .int 0]) (rest := []) C hw (kX12_pushFrame hc31) mtX12_pushFrame lkX12_220 oM hl.1 rfl rfl (Nat.le_of_ble_eq_true rfl) ⟨Nat.le_of_ble_eq_true rfl, Nat.le_of_ble_eq_true rfl⟩ dX12_readWord_31 ⟨Nat.zero_le _, Nat.zero_le _⟩ (fun H locs hw => ?_)
    refine lv_iconst (v := (-1)) hx hb dX12_readWord_34 ci_m1 ?_
    cases hm
    exact g_iret C hw dX12_readWord_35
def mX12_type_J165 (l2 : Int32) (s0 : Int32) (iv : mI) (ar : mA) : Option (Int32 × mI × mA) := if ((va_up iv 3 s0) 24) = 0 then some (l2, va_up iv 3 s0, ar) else some (((va_up iv 3 s0) 24), va_up iv 3 s0, ar)
set_option maxRecDepth 100000 in
set_option maxHeartbeats 4000000 in
theorem wX12_type_J165 (C : mCx p s m args meth c RX12 cX12_type 5 (some .int) D cI cJ A) : ∀ (l2 : Int32) (s0 : Int32) (iv : mI) (ar : mA) (rz : Int32) (ivz : mI) (arz : mA), mX12_type_J165 l2 s0 iv ar = some (rz, ivz, arz) → ∀ (H : Heap) (locs : List Loc) (ls : Array Slot), lv_has ls 5 [(0, .ref o), (2, .int l2)] → inW D A s (wM cI o ad iv ar) H locs → W p l e (rmO 4 92) s m args below meth c H locs 0 0 (MQ below (ctQ D cI cJ (wM cI o ad ivz arz) A rz) args s 0 0 A) (F0 m 165 ls [.int s0, .ref o]) := by
  intro l2 s0 iv ar rz ivz arz hm H locs ls hl hw
  have hx := C.1.1
  have hb := C.1.2.1
  unfold mX12_type_J165 at hm
  refine g_put C hw pM_3 dX12_type_165 (fun H locs hw => ?_)
  refine lv_aload_n hx hb dX12_type_168 rfl (lv_at hl 0 rfl) ?_
  refine g_get C hw gM_24 dX12_type_169 ?_
  refine lv_if_eq (tgt := 182) hx hb dX12_type_172 (by decide) (fun hc => ?_) (fun hc => ?_)
  · have hm := it_t hc hm
    refine lv_iload_n hx hb dX12_type_182 rfl (lv_at hl 1 rfl) ?_
    cases hm
    exact g_iret C hw dX12_type_183
  · have hm := it_f hc hm
    refine lv_aload_n hx hb dX12_type_175 rfl (lv_at hl 0 rfl) ?_
    refine g_get C hw gM_24 dX12_type_176 ?_
    refine lv_goto (tgt := 183) hx hb dX12_type_179 (by decide) ?_
    cases hm
    exact g_iret C hw dX12_type_183
def mX12_type_J149 (l1 : Int32) (l2 : Int32) (iv : mI) (ar : mA) : Option (Int32 × mI × mA) := if (iv 24) = 0 then mX12_type_J165 l2 (iv 3) iv ar else mX12_type_J165 l2 l1 iv ar
set_option maxRecDepth 100000 in
set_option maxHeartbeats 4000000 in
theorem wX12_type_J149 (C : mCx p s m args meth c RX12 cX12_type 5 (some .int) D cI cJ A) : ∀ (l1 : Int32) (l2 : Int32) (iv : mI) (ar : mA) (rz : Int32) (ivz : mI) (arz : mA), mX12_type_J149 l1 l2 iv ar = some (rz, ivz, arz) → ∀ (H : Heap) (locs : List Loc) (ls : Array Slot), lv_has ls 5 [(0, .ref o), (1, .int l1), (2, .int l2)] → inW D A s (wM cI o ad iv ar) H locs → W p l e (rmO 4 92) s m args below meth c H locs 0 0 (MQ below (ctQ D cI cJ (wM cI o ad ivz arz) A rz) args s 0 0 A) (F0 m 149 ls []) := by
  intro l1 l2 iv ar rz ivz arz hm H locs ls hl hw
  have hx := C.1.1
  have hb := C.1.2.1
  unfold mX12_type_J149 at hm
  refine lv_aload_n hx hb dX12_type_149 rfl (lv_at hl 0 rfl) ?_
  refine lv_aload_n hx hb dX12_type_150 rfl (lv_at hl 0 rfl) ?_
  refine g_get C hw gM_24 dX12_type_151 ?_
  refine lv_if_eq (tgt := 161) hx hb dX12_type_154 (by decide) (fun hc => ?_) (fun hc => ?_)
  · have hm := it_t hc hm
    refine lv_aload_n hx hb dX12_type_161 rfl (lv_at hl 0 rfl) ?_
    refine g_get C hw gM_3 dX12_type_162 ?_
    exact wX12_type_J165 C _ _ _ _ _ _ _ hm _ _ _ (lv_sub hl [0, 2] rfl) hw
  · have hm := it_f hc hm
    refine lv_iload_n hx hb dX12_type_157 rfl (lv_at hl 1 rfl) ?_
    refine lv_goto (tgt := 165) hx hb dX12_type_158 (by decide) ?_
    exact wX12_type_J165 C _ _ _ _ _ _ _ hm _ _ _ (lv_sub hl [0, 2] rfl) hw
def mX12_type_J121 (l1 : Int32) (l2 : Int32) (iv : mI) (ar : mA) : Option (Int32 × mI × mA) := if ((va_up iv 0 0) 24) = 0 then if ((va_up iv 0 0) 3) ≤ 200 then mX12_type_J149 l1 l2 (va_up iv 0 0) ar else mX12_type_J149 l1 l2 (va_up (va_up iv 0 0) 24 (-3)) ar else mX12_type_J149 l1 l2 (va_up iv 0 0) ar
set_option maxRecDepth 100000 in
set_option maxHeartbeats 4000000 in
theorem wX12_type_J121 (C : mCx p s m args meth c RX12 cX12_type 5 (some .int) D cI cJ A) : ∀ (l1 : Int32) (l2 : Int32) (iv : mI) (ar : mA) (rz : Int32) (ivz : mI) (arz : mA), mX12_type_J121 l1 l2 iv ar = some (rz, ivz, arz) → ∀ (H : Heap) (locs : List Loc) (ls : Array Slot), lv_has ls 5 [(0, .ref o), (1, .int l1), (2, .int l2)] → inW D A s (wM cI o ad iv ar) H locs → W p l e (rmO 4 92) s m args below meth c H locs 0 0 (MQ below (ctQ D cI cJ (wM cI o ad ivz arz) A rz) args s 0 0 A) (F0 m 121 ls []) := by
  intro l1 l2 iv ar rz ivz arz hm H locs ls hl hw
  have hx := C.1.1
  have hb := C.1.2.1
  unfold mX12_type_J121 at hm
  refine lv_aload_n hx hb dX12_type_121 rfl (lv_at hl 0 rfl) ?_
  refine lv_iconst (v := 0) hx hb dX12_type_122 ci_0 ?_
  refine g_put C hw pM_0 dX12_type_123 (fun H locs hw => ?_)
  refine lv_aload_n hx hb dX12_type_126 rfl (lv_at hl 0 rfl) ?_
  refine g_get C hw gM_24 dX12_type_127 ?_
  refine lv_if_ne (tgt := 149) hx hb dX12_type_130 (by decide) (fun hc => ?_) (fun hc => ?_)
  · have hm := it_f hc hm
    exact wX12_type_J149 C _ _ _ _ _ _ _ hm _ _ _ (lv_sub hl [0, 1, 2] rfl) hw
  · have hm := it_t hc hm
    refine lv_aload_n hx hb dX12_type_133 rfl (lv_at hl 0 rfl) ?_
    refine g_get C hw gM_3 dX12_type_134 ?_
    refine lv_sipush (v := 200) hx hb dX12_type_137 cs_200 ?_
    refine lv_icmp_le (tgt := 149) hx hb dX12_type_140 (by decide) (fun hc => ?_) (fun hc => ?_)
    · have hm := it_t hc hm
      exact wX12_type_J149 C _ _ _ _ _ _ _ hm _ _ _ (lv_sub hl [0, 1, 2] rfl) hw
    · have hm := it_f hc hm
      refine lv_aload_n hx hb dX12_type_143 rfl (lv_at hl 0 rfl) ?_
      refine lv_bipush (v := (-3)) hx hb dX12_type_144 cb_m3 ?_
      refine g_put C hw pM_24 dX12_type_146 (fun H locs hw => ?_)
      exact wX12_type_J149 C _ _ _ _ _ _ _ hm _ _ _ (lv_sub hl [0, 1, 2] rfl) hw
def mX12_type_J85 (l1 : Int32) (l2 : Int32) (iv : mI) (ar : mA) : Option (Int32 × mI × mA) := if (iv 24) = 0 then if (iv 0) ≤ (iv 23) then mX12_type_J121 l1 l2 iv ar else ob (mX12_fail (-14) (iv 23) iv ar) (fun r110 iv110 ar110 => mX12_type_J121 l1 l2 (va_up iv110 24 r110) ar110) else mX12_type_J121 l1 l2 iv ar
set_option maxRecDepth 100000 in
set_option maxHeartbeats 4000000 in
theorem wX12_type_J85 (C : mCx p s m args meth c RX12 cX12_type 5 (some .int) D cI cJ A) : ∀ (l1 : Int32) (l2 : Int32) (iv : mI) (ar : mA) (rz : Int32) (ivz : mI) (arz : mA), mX12_type_J85 l1 l2 iv ar = some (rz, ivz, arz) → ∀ (H : Heap) (locs : List Loc) (ls : Array Slot), lv_has ls 5 [(0, .ref o), (1, .int l1), (2, .int l2)] → inW D A s (wM cI o ad iv ar) H locs → W p l e (rmO 4 92) s m args below meth c H locs 0 0 (MQ below (ctQ D cI cJ (wM cI o ad ivz arz) A rz) args s 0 0 A) (F0 m 85 ls []) := by
  intro l1 l2 iv ar rz ivz arz hm H locs ls hl hw
  have hx := C.1.1
  have hb := C.1.2.1
  unfold mX12_type_J85 at hm
  refine lv_aload_n hx hb dX12_type_85 rfl (lv_at hl 0 rfl) ?_
  refine g_get C hw gM_24 dX12_type_86 ?_
  refine lv_if_ne (tgt := 121) hx hb dX12_type_89 (by decide) (fun hc => ?_) (fun hc => ?_)
  · have hm := it_f hc hm
    exact wX12_type_J121 C _ _ _ _ _ _ _ hm _ _ _ (lv_sub hl [0, 1, 2] rfl) hw
  · have hm := it_t hc hm
    refine lv_aload_n hx hb dX12_type_92 rfl (lv_at hl 0 rfl) ?_
    refine g_get C hw gM_23 dX12_type_93 ?_
    refine lv_aload_n hx hb dX12_type_96 rfl (lv_at hl 0 rfl) ?_
    refine g_get C hw gM_0 dX12_type_97 ?_
    refine lv_icmp_ge (tgt := 121) hx hb dX12_type_100 (by decide) (fun hc => ?_) (fun hc => ?_)
    · have hm := it_t hc hm
      exact wX12_type_J121 C _ _ _ _ _ _ _ hm _ _ _ (lv_sub hl [0, 1, 2] rfl) hw
    · have hm := it_f hc hm
      refine lv_aload_n hx hb dX12_type_103 rfl (lv_at hl 0 rfl) ?_
      refine lv_bipush (v := (-14)) hx hb dX12_type_104 cb_m14 ?_
      refine lv_aload_n hx hb dX12_type_106 rfl (lv_at hl 0 rfl) ?_
      refine g_get C hw gM_23 dX12_type_107 ?_
      obtain ⟨r110, iv110, ar110, hc110, hm⟩ := ob_some hm
      refine g_calli (As := [.int (-14), .int (iv 23)]) (rest := []) C hw (kX12_fail hc110) mtX12_fail lkX12_207 oM hl.1 rfl rfl (Nat.le_of_ble_eq_true rfl) ⟨Nat.le_of_ble_eq_true rfl, Nat.le_of_ble_eq_true rfl⟩ dX12_type_110 ⟨Nat.zero_le _, Nat.zero_le _⟩ (fun H locs hw => ?_)
      refine lv_istore (lv' := [(4, .int r110), (0, .ref o), (1, .int l1), (2, .int l2)]) hx hb dX12_type_113 hl (by decide) rfl (fun ls hl => ?_)
      refine lv_aload_n hx hb dX12_type_115 rfl (lv_at hl 1 rfl) ?_
      refine lv_iload hx hb dX12_type_116 (lv_at hl 0 rfl) ?_
      refine g_put C hw pM_24 dX12_type_118 (fun H locs hw => ?_)
      exact wX12_type_J121 C _ _ _ _ _ _ _ hm _ _ _ (lv_sub hl [1, 2, 3] rfl) hw
def mX12_type_J65 (k29 : Int32 → Int32 → Int32 → mI → mA → Option (Int32 × mI × mA)) (l1 : Int32) (l2 : Int32) (iv : mI) (ar : mA) : Option (Int32 × mI × mA) := if 0 < (iv 29) then k29 l1 l2 1 iv ar else if 0 ≤ l2 then k29 l1 l2 0 iv ar else k29 l1 l2 1 iv ar
set_option maxRecDepth 100000 in
set_option maxHeartbeats 4000000 in
theorem wX12_type_J65 {k29 : Int32 → Int32 → Int32 → mI → mA → Option (Int32 × mI × mA)} (C : mCx p s m args meth c RX12 cX12_type 5 (some .int) D cI cJ A) (hk29 : ∀ (l1 : Int32) (l2 : Int32) (l3 : Int32) (iv : mI) (ar : mA) (rz : Int32) (ivz : mI) (arz : mA), k29 l1 l2 l3 iv ar = some (rz, ivz, arz) → ∀ (H : Heap) (locs : List Loc) (ls : Array Slot), lv_has ls 5 [(0, .ref o), (1, .int l1), (2, .int l2), (3, .int l3)] → inW D A s (wM cI o ad iv ar) H locs → W p l e (rmO 4 92) s m args below meth c H locs 0 0 (MQ below (ctQ D cI cJ (wM cI o ad ivz arz) A rz) args s 0 0 A) (F0 m 29 ls [])) : ∀ (l1 : Int32) (l2 : Int32) (iv : mI) (ar : mA) (rz : Int32) (ivz : mI) (arz : mA), mX12_type_J65 k29 l1 l2 iv ar = some (rz, ivz, arz) → ∀ (H : Heap) (locs : List Loc) (ls : Array Slot), lv_has ls 5 [(0, .ref o), (1, .int l1), (2, .int l2)] → inW D A s (wM cI o ad iv ar) H locs → W p l e (rmO 4 92) s m args below meth c H locs 0 0 (MQ below (ctQ D cI cJ (wM cI o ad ivz arz) A rz) args s 0 0 A) (F0 m 65 ls []) := by
  intro l1 l2 iv ar rz ivz arz hm H locs ls hl hw
  have hx := C.1.1
  have hb := C.1.2.1
  unfold mX12_type_J65 at hm
  refine lv_aload_n hx hb dX12_type_65 rfl (lv_at hl 0 rfl) ?_
  refine g_get C hw gM_29 dX12_type_66 ?_
  refine lv_if_gt (tgt := 76) hx hb dX12_type_69 (by decide) (fun hc => ?_) (fun hc => ?_)
  · have hm := it_t hc hm
    refine lv_iconst (v := 1) hx hb dX12_type_76 ci_1 ?_
    refine lv_goto (tgt := 81) hx hb dX12_type_77 (by decide) ?_
    refine lv_istore_n (lv' := [(3, .int 1), (0, .ref o), (1, .int l1), (2, .int l2)]) hx hb dX12_type_81 rfl hl (by decide) rfl (fun ls hl => ?_)
    refine lv_goto (tgt := 29) hx hb dX12_type_82 (by decide) ?_
    exact hk29 _ _ _ _ _ _ _ _ hm _ _ _ (lv_sub hl [1, 2, 3, 0] rfl) hw
  · have hm := it_f hc hm
    refine lv_iload_n hx hb dX12_type_72 rfl (lv_at hl 2 rfl) ?_
    refine lv_if_ge (tgt := 80) hx hb dX12_type_73 (by decide) (fun hc => ?_) (fun hc => ?_)
    · have hm := it_t hc hm
      refine lv_iconst (v := 0) hx hb dX12_type_80 ci_0 ?_
      refine lv_istore_n (lv' := [(3, .int 0), (0, .ref o), (1, .int l1), (2, .int l2)]) hx hb dX12_type_81 rfl hl (by decide) rfl (fun ls hl => ?_)
      refine lv_goto (tgt := 29) hx hb dX12_type_82 (by decide) ?_
      exact hk29 _ _ _ _ _ _ _ _ hm _ _ _ (lv_sub hl [1, 2, 3, 0] rfl) hw
    · have hm := it_f hc hm
      refine lv_iconst (v := 1) hx hb dX12_type_76 ci_1 ?_
      refine lv_goto (tgt := 81) hx hb dX12_type_77 (by decide) ?_
      refine lv_istore_n (lv' := [(3, .int 1), (0, .ref o), (1, .int l1), (2, .int l2)]) hx hb dX12_type_81 rfl hl (by decide) rfl (fun ls hl => ?_)
      refine lv_goto (tgt := 29) hx hb dX12_type_82 (by decide) ?_
      exact hk29 _ _ _ _ _ _ _ _ hm _ _ _ (lv_sub hl [1, 2, 3, 0] rfl) hw
def mX12_type_L29 : Nat → Int32 → Int32 → Int32 → mI → mA → Option (Int32 × mI × mA)
  | 0, _, _, _, _, _ => none
  | n + 1, l1, l2, l3, iv, ar => if l3 = 0 then mX12_type_J85 l1 l2 iv ar else if (iv 24) = 0 then ob (mX12_readWord iv ar) (fun r41 iv41 ar41 => if r41 < 0 then mX12_type_J65 (mX12_type_L29 n) l1 l2 iv41 ar41 else if (iv41 24) = 0 then ob (mX12_settle r41 iv41 ar41) (fun r61 iv61 ar61 => mX12_type_J65 (mX12_type_L29 n) l1 r61 iv61 ar61) else mX12_type_J65 (mX12_type_L29 n) l1 l2 iv41 ar41) else mX12_type_J85 l1 l2 iv ar
set_option maxRecDepth 100000 in
set_option maxHeartbeats 4000000 in
theorem wX12_type_L29 (C : mCx p s m args meth c RX12 cX12_type 5 (some .int) D cI cJ A) (n : Nat) : ∀ (l1 : Int32) (l2 : Int32) (l3 : Int32) (iv : mI) (ar : mA) (rz : Int32) (ivz : mI) (arz : mA), mX12_type_L29 n l1 l2 l3 iv ar = some (rz, ivz, arz) → ∀ (H : Heap) (locs : List Loc) (ls : Array Slot), lv_has ls 5 [(0, .ref o), (1, .int l1), (2, .int l2), (3, .int l3)] → inW D A s (wM cI o ad iv ar) H locs → W p l e (rmO 4 92) s m args below meth c H locs 0 0 (MQ below (ctQ D cI cJ (wM cI o ad ivz arz) A rz) args s 0 0 A) (F0 m 29 ls []) := by
  induction n with
  | zero =>
    intro l1 l2 l3 iv ar rz ivz arz hm H locs ls hl hw
    have hm : (none : Option (Int32 × mI × mA)) = some _ := hm
    cases hm
  | succ n ih =>
    intro l1 l2 l3 iv ar rz ivz arz hm H locs ls hl hw
    have hx := C.1.1
    have hb := C.1.2.1
    unfold mX12_type_L29 at hm
    refine lv_iload_n hx hb dX12_type_29 rfl (lv_at hl 3 rfl) ?_
    refine lv_if_eq (tgt := 85) hx hb dX12_type_30 (by decide) (fun hc => ?_) (fun hc => ?_)
    · have hm := it_t hc hm
      exact wX12_type_J85 C _ _ _ _ _ _ _ hm _ _ _ (lv_sub hl [0, 1, 2] rfl) hw
    · have hm := it_f hc hm
      refine lv_aload_n hx hb dX12_type_33 rfl (lv_at hl 0 rfl) ?_
      refine g_get C hw gM_24 dX12_type_34 ?_
      refine lv_if_ne (tgt := 85) hx hb dX12_type_37 (by decide) (fun hc => ?_) (fun hc => ?_)
      · have hm := it_f hc hm
        exact wX12_type_J85 C _ _ _ _ _ _ _ hm _ _ _ (lv_sub hl [0, 1, 2] rfl) hw
      · have hm := it_t hc hm
        refine lv_aload_n hx hb dX12_type_40 rfl (lv_at hl 0 rfl) ?_
        obtain ⟨r41, iv41, ar41, hc41, hm⟩ := ob_some hm
        refine g_calli (As := []) (rest := []) C hw (kX12_readWord hc41) mtX12_readWord lkX12_235 oM hl.1 rfl rfl (Nat.le_of_ble_eq_true rfl) ⟨Nat.le_of_ble_eq_true rfl, Nat.le_of_ble_eq_true rfl⟩ dX12_type_41 ⟨Nat.zero_le _, Nat.zero_le _⟩ (fun H locs hw => ?_)
        refine lv_istore (lv' := [(4, .int r41), (0, .ref o), (1, .int l1), (2, .int l2), (3, .int l3)]) hx hb dX12_type_44 hl (by decide) rfl (fun ls hl => ?_)
        refine lv_iload hx hb dX12_type_46 (lv_at hl 0 rfl) ?_
        refine lv_if_lt (tgt := 65) hx hb dX12_type_48 (by decide) (fun hc => ?_) (fun hc => ?_)
        · have hm := it_t hc hm
          exact wX12_type_J65 C ih _ _ _ _ _ _ _ hm _ _ _ (lv_sub hl [1, 2, 3] rfl) hw
        · have hm := it_f hc hm
          refine lv_aload_n hx hb dX12_type_51 rfl (lv_at hl 1 rfl) ?_
          refine g_get C hw gM_24 dX12_type_52 ?_
          refine lv_if_ne (tgt := 65) hx hb dX12_type_55 (by decide) (fun hc => ?_) (fun hc => ?_)
          · have hm := it_f hc hm
            exact wX12_type_J65 C ih _ _ _ _ _ _ _ hm _ _ _ (lv_sub hl [1, 2, 3] rfl) hw
          · have hm := it_t hc hm
            refine lv_aload_n hx hb dX12_type_58 rfl (lv_at hl 1 rfl) ?_
            refine lv_iload hx hb dX12_type_59 (lv_at hl 0 rfl) ?_
            obtain ⟨r61, iv61, ar61, hc61, hm⟩ := ob_some hm
            refine g_calli (As := [.int r41]) (rest := []) C hw (kX12_settle hc61) mtX12_settle lkX12_239 oM hl.1 rfl rfl (Nat.le_of_ble_eq_true rfl) ⟨Nat.le_of_ble_eq_true rfl, Nat.le_of_ble_eq_true rfl⟩ dX12_type_61 ⟨Nat.zero_le _, Nat.zero_le _⟩ (fun H locs hw => ?_)
            refine lv_istore_n (lv' := [(2, .int r61), (4, .int r41), (0, .ref o), (1, .int l1), (3, .int l3)]) hx hb dX12_type_64 rfl hl (by decide) rfl (fun ls hl => ?_)
            exact wX12_type_J65 C ih _ _ _ _ _ _ _ hm _ _ _ (lv_sub hl [2, 3, 0] rfl) hw
def mX12_type  (iv : mI) (ar : mA) : Option (Int32 × mI × mA) := mX12_type_L29 bigF (iv 3) (-1) 1 (va_up (va_up (va_up (va_up iv 23 0) 24 0) 2 (-1)) 29 0) ar
set_option maxRecDepth 100000 in
set_option maxHeartbeats 4000000 in
theorem kX12_type {iv ivz : mI} {ar arz : mA} {rz : Int32} (hm : mX12_type iv ar = some (rz, ivz, arz)) : Ct l D cI cJ yX12_type cX12_type 5 (some .int) 4 92 [.ref o] (wM cI o ad iv ar) (wM cI o ad ivz arz) rz := by
  intro sz
  refine ct_of (by decide) (Nat.le_of_ble_eq_true rfl) ?_
  intro p e s m args below meth c C hw ls hl
  have hl : lv_has ls 5 [(0, .ref o)] := hl
  have hx := C.1.1
  have hb := C.1.2.1
  unfold mX12_type at hm
  refine lv_aload_n hx hb dX12_type_0 rfl (lv_at hl 0 rfl) ?_
  refine g_get C hw gM_3 dX12_type_1 ?_
  refine lv_istore_n (lv' := [(1, .int (iv 3)), (0, .ref o)]) hx hb dX12_type_4 rfl hl (by decide) rfl (fun ls hl => ?_)
  refine lv_aload_n hx hb dX12_type_5 rfl (lv_at hl 1 rfl) ?_
  refine lv_iconst (v := 0) hx hb dX12_type_6 ci_0 ?_
  refine g_put C hw pM_23 dX12_type_7 (fun H locs hw => ?_)
  refine lv_aload_n hx hb dX12_type_10 rfl (lv_at hl 1 rfl) ?_
  refine lv_iconst (v := 0) hx hb dX12_type_11 ci_0 ?_
  refine g_put C hw pM_24 dX12_type_12 (fun H locs hw => ?_)
  refine lv_aload_n hx hb dX12_type_15 rfl (lv_at hl 1 rfl) ?_
  refine lv_iconst (v := (-1)) hx hb dX12_type_16 ci_m1 ?_
  refine g_put C hw pM_2 dX12_type_17 (fun H locs hw => ?_)
  refine lv_aload_n hx hb dX12_type_20 rfl (lv_at hl 1 rfl) ?_
  refine lv_iconst (v := 0) hx hb dX12_type_21 ci_0 ?_
  refine g_put C hw pM_29 dX12_type_22 (fun H locs hw => ?_)
  refine lv_iconst (v := (-1)) hx hb dX12_type_25 ci_m1 ?_
  refine lv_istore_n (lv' := [(2, .int (-1)), (1, .int (iv 3)), (0, .ref o)]) hx hb dX12_type_26 rfl hl (by decide) rfl (fun ls hl => ?_)
  refine lv_iconst (v := 1) hx hb dX12_type_27 ci_1 ?_
  refine lv_istore_n (lv' := [(3, .int 1), (2, .int (-1)), (1, .int (iv 3)), (0, .ref o)]) hx hb dX12_type_28 rfl hl (by decide) rfl (fun ls hl => ?_)
  exact wX12_type_L29 C bigF _ _ _ _ _ _ _ _ hm _ _ _ (lv_sub hl [3, 2, 1, 0] rfl) hw
def mX12_fits (a1 : Int32) (a2 : Int32) (iv : mI) (ar : mA) : Option (Int32 × mI × mA) := if a1 < 0 ∨ 400 ≤ a1.toNatClampNeg then none else if (ar 4 a1.toNatClampNeg) = 1 then some (1, iv, ar) else if a2 < 0 ∨ 400 ≤ a2.toNatClampNeg then none else if (ar 4 a2.toNatClampNeg) = 0 then some (1, iv, ar) else if a1 < 0 ∨ 400 ≤ a1.toNatClampNeg then none else if a2 < 0 ∨ 400 ≤ a2.toNatClampNeg then none else if (ar 4 a1.toNatClampNeg) = (ar 4 a2.toNatClampNeg) then if a1 < 0 ∨ 400 ≤ a1.toNatClampNeg then none else if (ar 4 a1.toNatClampNeg) = 5 then if a2 < 0 ∨ 400 ≤ a2.toNatClampNeg then none else if a1 < 0 ∨ 400 ≤ a1.toNatClampNeg then none else if ((ar 5 a2.toNatClampNeg) &&& ((ar 5 a1.toNatClampNeg) ^^^ (-1))) = 0 then some (1, iv, ar) else some (0, iv, ar) else if a1 < 0 ∨ 400 ≤ a1.toNatClampNeg then none else if (ar 4 a1.toNatClampNeg) = 6 then if a1 < 0 ∨ 400 ≤ a1.toNatClampNeg then none else if a2 < 0 ∨ 400 ≤ a2.toNatClampNeg then none else if ((ar 5 a1.toNatClampNeg) &&& ((ar 5 a2.toNatClampNeg) ^^^ (-1))) = 0 then some (1, iv, ar) else some (0, iv, ar) else some (1, iv, ar) else some (0, iv, ar)
set_option maxRecDepth 100000 in
set_option maxHeartbeats 4000000 in
theorem kX12_fits {a1 a2 : Int32} {iv ivz : mI} {ar arz : mA} {rz : Int32} (hm : mX12_fits a1 a2 iv ar = some (rz, ivz, arz)) : Ct l D cI cJ yX12_fits cX12_fits 3 (some .boolean) 0 0 [.ref o, .int a1, .int a2] (wM cI o ad iv ar) (wM cI o ad ivz arz) rz := by
  intro sz
  refine ct_of (by decide) (Nat.le_of_ble_eq_true rfl) ?_
  intro p e s m args below meth c C hw ls hl
  have hl : lv_has ls 3 [(0, .ref o), (1, .int a1), (2, .int a2)] := hl
  have hx := C.1.1
  have hb := C.1.2.1
  unfold mX12_fits at hm
  refine lv_aload_n hx hb dX12_fits_0 rfl (lv_at hl 0 rfl) ?_
  refine g_get C hw gM_4 dX12_fits_1 ?_
  refine lv_iload_n hx hb dX12_fits_4 rfl (lv_at hl 1 rfl) ?_
  obtain ⟨hi, hm⟩ := it_a hm
  refine g_ald C hw aM_4 hi dX12_fits_5 ?_
  refine lv_iconst (v := 1) hx hb dX12_fits_6 ci_1 ?_
  refine lv_icmp_eq (tgt := 19) hx hb dX12_fits_7 (by decide) (fun hc => ?_) (fun hc => ?_)
  · have hm := it_t hc hm
    refine lv_iconst (v := 1) hx hb dX12_fits_19 ci_1 ?_
    cases hm
    exact g_zret C hw (Or.inr rfl) dX12_fits_20
  · have hm := it_f hc hm
    refine lv_aload_n hx hb dX12_fits_10 rfl (lv_at hl 0 rfl) ?_
    refine g_get C hw gM_4 dX12_fits_11 ?_
    refine lv_iload_n hx hb dX12_fits_14 rfl (lv_at hl 2 rfl) ?_
    obtain ⟨hi, hm⟩ := it_a hm
    refine g_ald C hw aM_4 hi dX12_fits_15 ?_
    refine lv_if_ne (tgt := 21) hx hb dX12_fits_16 (by decide) (fun hc => ?_) (fun hc => ?_)
    · have hm := it_f hc hm
      refine lv_aload_n hx hb dX12_fits_21 rfl (lv_at hl 0 rfl) ?_
      refine g_get C hw gM_4 dX12_fits_22 ?_
      refine lv_iload_n hx hb dX12_fits_25 rfl (lv_at hl 1 rfl) ?_
      obtain ⟨hi, hm⟩ := it_a hm
      refine g_ald C hw aM_4 hi dX12_fits_26 ?_
      refine lv_aload_n hx hb dX12_fits_27 rfl (lv_at hl 0 rfl) ?_
      refine g_get C hw gM_4 dX12_fits_28 ?_
      refine lv_iload_n hx hb dX12_fits_31 rfl (lv_at hl 2 rfl) ?_
      obtain ⟨hi, hm⟩ := it_a hm
      refine g_ald C hw aM_4 hi dX12_fits_32 ?_
      refine lv_icmp_eq (tgt := 38) hx hb dX12_fits_33 (by decide) (fun hc => ?_) (fun hc => ?_)
      · have hm := it_t hc hm
        refine lv_aload_n hx hb dX12_fits_38 rfl (lv_at hl 0 rfl) ?_
        refine g_get C hw gM_4 dX12_fits_39 ?_
        refine lv_iload_n hx hb dX12_fits_42 rfl (lv_at hl 1 rfl) ?_
        obtain ⟨hi, hm⟩ := it_a hm
        refine g_ald C hw aM_4 hi dX12_fits_43 ?_
        refine lv_iconst (v := 5) hx hb dX12_fits_44 ci_5 ?_
        refine lv_icmp_ne (tgt := 74) hx hb dX12_fits_45 (by decide) (fun hc => ?_) (fun hc => ?_)
        · have hm := it_f hc hm
          refine lv_aload_n hx hb dX12_fits_74 rfl (lv_at hl 0 rfl) ?_
          refine g_get C hw gM_4 dX12_fits_75 ?_
          refine lv_iload_n hx hb dX12_fits_78 rfl (lv_at hl 1 rfl) ?_
          obtain ⟨hi, hm⟩ := it_a hm
          refine g_ald C hw aM_4 hi dX12_fits_79 ?_
          refine lv_bipush (v := 6) hx hb dX12_fits_80 cb_6 ?_
          refine lv_icmp_ne (tgt := 103) hx hb dX12_fits_82 (by decide) (fun hc => ?_) (fun hc => ?_)
          · have hm := it_f hc hm
            refine lv_iconst (v := 1) hx hb dX12_fits_103 ci_1 ?_
            refine lv_goto (tgt := 108) hx hb dX12_fits_104 (by decide) ?_
            cases hm
            exact g_zret C hw (Or.inr rfl) dX12_fits_108
          · have hm := it_t hc hm
            refine lv_aload_n hx hb dX12_fits_85 rfl (lv_at hl 0 rfl) ?_
            refine g_get C hw gM_5 dX12_fits_86 ?_
            refine lv_iload_n hx hb dX12_fits_89 rfl (lv_at hl 1 rfl) ?_
            obtain ⟨hi, hm⟩ := it_a hm
            refine g_ald C hw aM_5 hi dX12_fits_90 ?_
            refine lv_aload_n hx hb dX12_fits_91 rfl (lv_at hl 0 rfl) ?_
            refine g_get C hw gM_5 dX12_fits_92 ?_
            refine lv_iload_n hx hb dX12_fits_95 rfl (lv_at hl 2 rfl) ?_
            obtain ⟨hi, hm⟩ := it_a hm
            refine g_ald C hw aM_5 hi dX12_fits_96 ?_
            refine lv_iconst (v := (-1)) hx hb dX12_fits_97 ci_m1 ?_
            refine lv_ixor hx hb dX12_fits_98 ?_
            refine lv_iand hx hb dX12_fits_99 ?_
            refine lv_if_ne (tgt := 107) hx hb dX12_fits_100 (by decide) (fun hc => ?_) (fun hc => ?_)
            · have hm := it_f hc hm
              refine lv_iconst (v := 0) hx hb dX12_fits_107 ci_0 ?_
              cases hm
              exact g_zret C hw (Or.inl rfl) dX12_fits_108
            · have hm := it_t hc hm
              refine lv_iconst (v := 1) hx hb dX12_fits_103 ci_1 ?_
              refine lv_goto (tgt := 108) hx hb dX12_fits_104 (by decide) ?_
              cases hm
              exact g_zret C hw (Or.inr rfl) dX12_fits_108
        · have hm := it_t hc hm
          refine lv_aload_n hx hb dX12_fits_48 rfl (lv_at hl 0 rfl) ?_
          refine g_get C hw gM_5 dX12_fits_49 ?_
          refine lv_iload_n hx hb dX12_fits_52 rfl (lv_at hl 2 rfl) ?_
          obtain ⟨hi, hm⟩ := it_a hm
          refine g_ald C hw aM_5 hi dX12_fits_53 ?_
          refine lv_aload_n hx hb dX12_fits_54 rfl (lv_at hl 0 rfl) ?_
          refine g_get C hw gM_5 dX12_fits_55 ?_
          refine lv_iload_n hx hb dX12_fits_58 rfl (lv_at hl 1 rfl) ?_
          obtain ⟨hi, hm⟩ := it_a hm
          refine g_ald C hw aM_5 hi dX12_fits_59 ?_
          refine lv_iconst (v := (-1)) hx hb dX12_fits_60 ci_m1 ?_
          refine lv_ixor hx hb dX12_fits_61 ?_
          refine lv_iand hx hb dX12_fits_62 ?_
          refine lv_if_ne (tgt := 70) hx hb dX12_fits_63 (by decide) (fun hc => ?_) (fun hc => ?_)
          · have hm := it_f hc hm
            refine lv_iconst (v := 0) hx hb dX12_fits_70 ci_0 ?_
            refine lv_goto (tgt := 108) hx hb dX12_fits_71 (by decide) ?_
            cases hm
            exact g_zret C hw (Or.inl rfl) dX12_fits_108
          · have hm := it_t hc hm
            refine lv_iconst (v := 1) hx hb dX12_fits_66 ci_1 ?_
            refine lv_goto (tgt := 108) hx hb dX12_fits_67 (by decide) ?_
            cases hm
            exact g_zret C hw (Or.inr rfl) dX12_fits_108
      · have hm := it_f hc hm
        refine lv_iconst (v := 0) hx hb dX12_fits_36 ci_0 ?_
        cases hm
        exact g_zret C hw (Or.inl rfl) dX12_fits_37
    · have hm := it_t hc hm
      refine lv_iconst (v := 1) hx hb dX12_fits_19 ci_1 ?_
      cases hm
      exact g_zret C hw (Or.inr rfl) dX12_fits_20
def mX12_wanted (a1 : Int32) (a2 : Int32) (iv : mI) (ar : mA) : Option (Int32 × mI × mA) := if a1 < 0 ∨ 400 ≤ a1.toNatClampNeg then none else if (ar 4 a1.toNatClampNeg) = 1 then some (0, iv, ar) else if a2 < 0 ∨ 400 ≤ a2.toNatClampNeg then none else if (ar 4 a2.toNatClampNeg) = 0 then some (0, iv, ar) else if a1 < 0 ∨ 400 ≤ a1.toNatClampNeg then none else if (ar 4 a1.toNatClampNeg) = 5 then if a2 < 0 ∨ 400 ≤ a2.toNatClampNeg then none else some ((ar 5 a2.toNatClampNeg), iv, ar) else if a1 < 0 ∨ 400 ≤ a1.toNatClampNeg then none else some ((ar 5 a1.toNatClampNeg), iv, ar)
set_option maxRecDepth 100000 in
set_option maxHeartbeats 4000000 in
theorem kX12_wanted {a1 a2 : Int32} {iv ivz : mI} {ar arz : mA} {rz : Int32} (hm : mX12_wanted a1 a2 iv ar = some (rz, ivz, arz)) : Ct l D cI cJ yX12_wanted cX12_wanted 3 (some .int) 0 0 [.ref o, .int a1, .int a2] (wM cI o ad iv ar) (wM cI o ad ivz arz) rz := by
  intro sz
  refine ct_of (by decide) (Nat.le_of_ble_eq_true rfl) ?_
  intro p e s m args below meth c C hw ls hl
  have hl : lv_has ls 3 [(0, .ref o), (1, .int a1), (2, .int a2)] := hl
  have hx := C.1.1
  have hb := C.1.2.1
  unfold mX12_wanted at hm
  refine lv_aload_n hx hb dX12_wanted_0 rfl (lv_at hl 0 rfl) ?_
  refine g_get C hw gM_4 dX12_wanted_1 ?_
  refine lv_iload_n hx hb dX12_wanted_4 rfl (lv_at hl 1 rfl) ?_
  obtain ⟨hi, hm⟩ := it_a hm
  refine g_ald C hw aM_4 hi dX12_wanted_5 ?_
  refine lv_iconst (v := 1) hx hb dX12_wanted_6 ci_1 ?_
  refine lv_icmp_eq (tgt := 19) hx hb dX12_wanted_7 (by decide) (fun hc => ?_) (fun hc => ?_)
  · have hm := it_t hc hm
    refine lv_iconst (v := 0) hx hb dX12_wanted_19 ci_0 ?_
    cases hm
    exact g_iret C hw dX12_wanted_20
  · have hm := it_f hc hm
    refine lv_aload_n hx hb dX12_wanted_10 rfl (lv_at hl 0 rfl) ?_
    refine g_get C hw gM_4 dX12_wanted_11 ?_
    refine lv_iload_n hx hb dX12_wanted_14 rfl (lv_at hl 2 rfl) ?_
    obtain ⟨hi, hm⟩ := it_a hm
    refine g_ald C hw aM_4 hi dX12_wanted_15 ?_
    refine lv_if_ne (tgt := 21) hx hb dX12_wanted_16 (by decide) (fun hc => ?_) (fun hc => ?_)
    · have hm := it_f hc hm
      refine lv_aload_n hx hb dX12_wanted_21 rfl (lv_at hl 0 rfl) ?_
      refine g_get C hw gM_4 dX12_wanted_22 ?_
      refine lv_iload_n hx hb dX12_wanted_25 rfl (lv_at hl 1 rfl) ?_
      obtain ⟨hi, hm⟩ := it_a hm
      refine g_ald C hw aM_4 hi dX12_wanted_26 ?_
      refine lv_iconst (v := 5) hx hb dX12_wanted_27 ci_5 ?_
      refine lv_icmp_ne (tgt := 40) hx hb dX12_wanted_28 (by decide) (fun hc => ?_) (fun hc => ?_)
      · have hm := it_f hc hm
        refine lv_aload_n hx hb dX12_wanted_40 rfl (lv_at hl 0 rfl) ?_
        refine g_get C hw gM_5 dX12_wanted_41 ?_
        refine lv_iload_n hx hb dX12_wanted_44 rfl (lv_at hl 1 rfl) ?_
        obtain ⟨hi, hm⟩ := it_a hm
        refine g_ald C hw aM_5 hi dX12_wanted_45 ?_
        cases hm
        exact g_iret C hw dX12_wanted_46
      · have hm := it_t hc hm
        refine lv_aload_n hx hb dX12_wanted_31 rfl (lv_at hl 0 rfl) ?_
        refine g_get C hw gM_5 dX12_wanted_32 ?_
        refine lv_iload_n hx hb dX12_wanted_35 rfl (lv_at hl 2 rfl) ?_
        obtain ⟨hi, hm⟩ := it_a hm
        refine g_ald C hw aM_5 hi dX12_wanted_36 ?_
        refine lv_goto (tgt := 46) hx hb dX12_wanted_37 (by decide) ?_
        cases hm
        exact g_iret C hw dX12_wanted_46
    · have hm := it_t hc hm
      refine lv_iconst (v := 0) hx hb dX12_wanted_19 ci_0 ?_
      cases hm
      exact g_iret C hw dX12_wanted_20
def mX12_nextPair_J49 (l3 : Int32) (l5 : Int32) (s0 : Int32) (iv : mI) (ar : mA) : Option (Int32 × mI × mA) := ob (mX12_part s0 l3 iv ar) (fun r50 iv50 ar50 => some (((400 * l5) + r50), iv50, ar50))
set_option maxRecDepth 100000 in
set_option maxHeartbeats 4000000 in
theorem wX12_nextPair_J49 (C : mCx p s m args meth c RX12 cX12_nextPair 7 (some .int) D cI cJ A) : ∀ (l3 : Int32) (l5 : Int32) (s0 : Int32) (iv : mI) (ar : mA) (rz : Int32) (ivz : mI) (arz : mA), mX12_nextPair_J49 l3 l5 s0 iv ar = some (rz, ivz, arz) → ∀ (H : Heap) (locs : List Loc) (ls : Array Slot), lv_has ls 7 [(3, .int l3), (5, .int l5)] → inW D A s (wM cI o ad iv ar) H locs → W p l e (rmO 1 22) s m args below meth c H locs 0 0 (MQ below (ctQ D cI cJ (wM cI o ad ivz arz) A rz) args s 0 0 A) (F0 m 49 ls [.int s0, .ref o]) := by
  intro l3 l5 s0 iv ar rz ivz arz hm H locs ls hl hw
  have hx := C.1.1
  have hb := C.1.2.1
  unfold mX12_nextPair_J49 at hm
  refine lv_iload_n hx hb dX12_nextPair_49 rfl (lv_at hl 0 rfl) ?_
  obtain ⟨r50, iv50, ar50, hc50, hm⟩ := ob_some hm
  refine g_calli (As := [.int s0, .int l3]) (rest := []) C hw (kX12_part hc50) mtX12_part lkX12_242 oM hl.1 rfl rfl (Nat.le_of_ble_eq_true rfl) ⟨Nat.le_of_ble_eq_true rfl, Nat.le_of_ble_eq_true rfl⟩ dX12_nextPair_50 ⟨Nat.zero_le _, Nat.zero_le _⟩ (fun H locs hw => ?_)
  refine lv_istore (lv' := [(6, .int r50), (3, .int l3), (5, .int l5)]) hx hb dX12_nextPair_53 hl (by decide) rfl (fun ls hl => ?_)
  refine lv_sipush (v := 400) hx hb dX12_nextPair_55 cs_400 ?_
  refine lv_iload hx hb dX12_nextPair_58 (lv_at hl 2 rfl) ?_
  refine lv_imul hx hb dX12_nextPair_60 ?_
  refine lv_iload hx hb dX12_nextPair_61 (lv_at hl 0 rfl) ?_
  refine lv_iadd hx hb dX12_nextPair_63 ?_
  cases hm
  exact g_iret C hw dX12_nextPair_64
def mX12_nextPair_J32 (l1 : Int32) (l2 : Int32) (l3 : Int32) (l4 : Int32) (s0 : Int32) (iv : mI) (ar : mA) : Option (Int32 × mI × mA) := ob (mX12_part s0 l3 iv ar) (fun r33 iv33 ar33 => if l4 = 0 then mX12_nextPair_J49 l3 r33 l2 iv33 ar33 else mX12_nextPair_J49 l3 r33 l1 iv33 ar33)
set_option maxRecDepth 100000 in
set_option maxHeartbeats 4000000 in
theorem wX12_nextPair_J32 (C : mCx p s m args meth c RX12 cX12_nextPair 7 (some .int) D cI cJ A) : ∀ (l1 : Int32) (l2 : Int32) (l3 : Int32) (l4 : Int32) (s0 : Int32) (iv : mI) (ar : mA) (rz : Int32) (ivz : mI) (arz : mA), mX12_nextPair_J32 l1 l2 l3 l4 s0 iv ar = some (rz, ivz, arz) → ∀ (H : Heap) (locs : List Loc) (ls : Array Slot), lv_has ls 7 [(0, .ref o), (1, .int l1), (2, .int l2), (3, .int l3), (4, .int l4)] → inW D A s (wM cI o ad iv ar) H locs → W p l e (rmO 1 22) s m args below meth c H locs 0 0 (MQ below (ctQ D cI cJ (wM cI o ad ivz arz) A rz) args s 0 0 A) (F0 m 32 ls [.int s0, .ref o]) := by
  intro l1 l2 l3 l4 s0 iv ar rz ivz arz hm H locs ls hl hw
  have hx := C.1.1
  have hb := C.1.2.1
  unfold mX12_nextPair_J32 at hm
  refine lv_iload_n hx hb dX12_nextPair_32 rfl (lv_at hl 3 rfl) ?_
  obtain ⟨r33, iv33, ar33, hc33, hm⟩ := ob_some hm
  refine g_calli (As := [.int s0, .int l3]) (rest := []) C hw (kX12_part hc33) mtX12_part lkX12_242 oM hl.1 rfl rfl (Nat.le_of_ble_eq_true rfl) ⟨Nat.le_of_ble_eq_true rfl, Nat.le_of_ble_eq_true rfl⟩ dX12_nextPair_33 ⟨Nat.zero_le _, Nat.zero_le _⟩ (fun H locs hw => ?_)
  refine lv_istore (lv' := [(5, .int r33), (0, .ref o), (1, .int l1), (2, .int l2), (3, .int l3), (4, .int l4)]) hx hb dX12_nextPair_36 hl (by decide) rfl (fun ls hl => ?_)
  refine lv_aload_n hx hb dX12_nextPair_38 rfl (lv_at hl 1 rfl) ?_
  refine lv_iload hx hb dX12_nextPair_39 (lv_at hl 5 rfl) ?_
  refine lv_if_eq (tgt := 48) hx hb dX12_nextPair_41 (by decide) (fun hc => ?_) (fun hc => ?_)
  · have hm := it_t hc hm
    refine lv_iload_n hx hb dX12_nextPair_48 rfl (lv_at hl 3 rfl) ?_
    exact wX12_nextPair_J49 C _ _ _ _ _ _ _ _ hm _ _ _ (lv_sub hl [4, 0] rfl) hw
  · have hm := it_f hc hm
    refine lv_iload_n hx hb dX12_nextPair_44 rfl (lv_at hl 2 rfl) ?_
    refine lv_goto (tgt := 49) hx hb dX12_nextPair_45 (by decide) ?_
    exact wX12_nextPair_J49 C _ _ _ _ _ _ _ _ hm _ _ _ (lv_sub hl [4, 0] rfl) hw
def mX12_nextPair_J19 (l1 : Int32) (l2 : Int32) (l3 : Int32) (s0 : Int32) (iv : mI) (ar : mA) : Option (Int32 × mI × mA) := if s0 = 0 then mX12_nextPair_J32 l1 l2 l3 s0 l1 iv ar else mX12_nextPair_J32 l1 l2 l3 s0 l2 iv ar
set_option maxRecDepth 100000 in
set_option maxHeartbeats 4000000 in
theorem wX12_nextPair_J19 (C : mCx p s m args meth c RX12 cX12_nextPair 7 (some .int) D cI cJ A) : ∀ (l1 : Int32) (l2 : Int32) (l3 : Int32) (s0 : Int32) (iv : mI) (ar : mA) (rz : Int32) (ivz : mI) (arz : mA), mX12_nextPair_J19 l1 l2 l3 s0 iv ar = some (rz, ivz, arz) → ∀ (H : Heap) (locs : List Loc) (ls : Array Slot), lv_has ls 7 [(0, .ref o), (1, .int l1), (2, .int l2), (3, .int l3)] → inW D A s (wM cI o ad iv ar) H locs → W p l e (rmO 1 22) s m args below meth c H locs 0 0 (MQ below (ctQ D cI cJ (wM cI o ad ivz arz) A rz) args s 0 0 A) (F0 m 19 ls [.int s0]) := by
  intro l1 l2 l3 s0 iv ar rz ivz arz hm H locs ls hl hw
  have hx := C.1.1
  have hb := C.1.2.1
  unfold mX12_nextPair_J19 at hm
  refine lv_istore (lv' := [(4, .int s0), (0, .ref o), (1, .int l1), (2, .int l2), (3, .int l3)]) hx hb dX12_nextPair_19 hl (by decide) rfl (fun ls hl => ?_)
  refine lv_aload_n hx hb dX12_nextPair_21 rfl (lv_at hl 1 rfl) ?_
  refine lv_iload hx hb dX12_nextPair_22 (lv_at hl 0 rfl) ?_
  refine lv_if_eq (tgt := 31) hx hb dX12_nextPair_24 (by decide) (fun hc => ?_) (fun hc => ?_)
  · have hm := it_t hc hm
    refine lv_iload_n hx hb dX12_nextPair_31 rfl (lv_at hl 2 rfl) ?_
    exact wX12_nextPair_J32 C _ _ _ _ _ _ _ _ _ _ hm _ _ _ (lv_sub hl [1, 2, 3, 4, 0] rfl) hw
  · have hm := it_f hc hm
    refine lv_iload_n hx hb dX12_nextPair_27 rfl (lv_at hl 3 rfl) ?_
    refine lv_goto (tgt := 32) hx hb dX12_nextPair_28 (by decide) ?_
    exact wX12_nextPair_J32 C _ _ _ _ _ _ _ _ _ _ hm _ _ _ (lv_sub hl [1, 2, 3, 4, 0] rfl) hw
def mX12_nextPair (a1 : Int32) (a2 : Int32) (a3 : Int32) (iv : mI) (ar : mA) : Option (Int32 × mI × mA) := if a1 < 0 ∨ 400 ≤ a1.toNatClampNeg then none else if (ar 4 a1.toNatClampNeg) = 4 then if a3 = 0 then mX12_nextPair_J19 a1 a2 a3 1 iv ar else mX12_nextPair_J19 a1 a2 a3 0 iv ar else mX12_nextPair_J19 a1 a2 a3 0 iv ar
set_option maxRecDepth 100000 in
set_option maxHeartbeats 4000000 in
theorem kX12_nextPair {a1 a2 a3 : Int32} {iv ivz : mI} {ar arz : mA} {rz : Int32} (hm : mX12_nextPair a1 a2 a3 iv ar = some (rz, ivz, arz)) : Ct l D cI cJ yX12_nextPair cX12_nextPair 7 (some .int) 1 22 [.ref o, .int a1, .int a2, .int a3] (wM cI o ad iv ar) (wM cI o ad ivz arz) rz := by
  intro sz
  refine ct_of (by decide) (Nat.le_of_ble_eq_true rfl) ?_
  intro p e s m args below meth c C hw ls hl
  have hl : lv_has ls 7 [(0, .ref o), (1, .int a1), (2, .int a2), (3, .int a3)] := hl
  have hx := C.1.1
  have hb := C.1.2.1
  unfold mX12_nextPair at hm
  refine lv_aload_n hx hb dX12_nextPair_0 rfl (lv_at hl 0 rfl) ?_
  refine g_get C hw gM_4 dX12_nextPair_1 ?_
  refine lv_iload_n hx hb dX12_nextPair_4 rfl (lv_at hl 1 rfl) ?_
  obtain ⟨hi, hm⟩ := it_a hm
  refine g_ald C hw aM_4 hi dX12_nextPair_5 ?_
  refine lv_iconst (v := 4) hx hb dX12_nextPair_6 ci_4 ?_
  refine lv_icmp_ne (tgt := 18) hx hb dX12_nextPair_7 (by decide) (fun hc => ?_) (fun hc => ?_)
  · have hm := it_f hc hm
    refine lv_iconst (v := 0) hx hb dX12_nextPair_18 ci_0 ?_
    exact wX12_nextPair_J19 C _ _ _ _ _ _ _ _ _ hm _ _ _ (lv_sub hl [0, 1, 2, 3] rfl) hw
  · have hm := it_t hc hm
    refine lv_iload_n hx hb dX12_nextPair_10 rfl (lv_at hl 3 rfl) ?_
    refine lv_if_ne (tgt := 18) hx hb dX12_nextPair_11 (by decide) (fun hc => ?_) (fun hc => ?_)
    · have hm := it_f hc hm
      refine lv_iconst (v := 0) hx hb dX12_nextPair_18 ci_0 ?_
      exact wX12_nextPair_J19 C _ _ _ _ _ _ _ _ _ hm _ _ _ (lv_sub hl [0, 1, 2, 3] rfl) hw
    · have hm := it_t hc hm
      refine lv_iconst (v := 1) hx hb dX12_nextPair_14 ci_1 ?_
      refine lv_goto (tgt := 19) hx hb dX12_nextPair_15 (by decide) ?_
      exact wX12_nextPair_J19 C _ _ _ _ _ _ _ _ _ hm _ _ _ (lv_sub hl [0, 1, 2, 3] rfl) hw
def mX12_addBack_L14 : Nat → Int32 → Int32 → Int32 → Int32 → Int32 → mI → mA → Option (Int32 × mI × mA)
  | 0, _, _, _, _, _, _, _ => none
  | n + 1, l1, l2, l4, l5, l6, iv, ar => if 8 ≤ l6 then some (l4, iv, ar) else if ((l5 >>> (l6 &&& 31)) &&& 1) = 1 then ob (mX12_nextPair l1 l2 l6 iv ar) (fun r37 iv37 ar37 => if l4 < 0 ∨ 320000 ≤ l4.toNatClampNeg then none else if r37 < 0 ∨ 160000 ≤ r37.toNatClampNeg then none else if l4 < 0 ∨ 320000 ≤ l4.toNatClampNeg then none else if r37 < 0 ∨ 160000 ≤ r37.toNatClampNeg then none else mX12_addBack_L14 n l1 l2 (l4 + 1) l5 (l6 + 1) iv37 (au (au (au ar37 11 l4.toNatClampNeg ((400 * l1) + l2)) 10 l4.toNatClampNeg ((au ar37 11 l4.toNatClampNeg ((400 * l1) + l2)) 9 r37.toNatClampNeg)) 9 r37.toNatClampNeg l4)) else mX12_addBack_L14 n l1 l2 l4 l5 (l6 + 1) iv ar
set_option maxRecDepth 100000 in
set_option maxHeartbeats 4000000 in
theorem wX12_addBack_L14 (C : mCx p s m args meth c RX12 cX12_addBack 8 (some .int) D cI cJ A) (n : Nat) : ∀ (l1 : Int32) (l2 : Int32) (l4 : Int32) (l5 : Int32) (l6 : Int32) (iv : mI) (ar : mA) (rz : Int32) (ivz : mI) (arz : mA), mX12_addBack_L14 n l1 l2 l4 l5 l6 iv ar = some (rz, ivz, arz) → ∀ (H : Heap) (locs : List Loc) (ls : Array Slot), lv_has ls 8 [(0, .ref o), (1, .int l1), (2, .int l2), (4, .int l4), (5, .int l5), (6, .int l6)] → inW D A s (wM cI o ad iv ar) H locs → W p l e (rmO 2 48) s m args below meth c H locs 0 0 (MQ below (ctQ D cI cJ (wM cI o ad ivz arz) A rz) args s 0 0 A) (F0 m 14 ls []) := by
  induction n with
  | zero =>
    intro l1 l2 l4 l5 l6 iv ar rz ivz arz hm H locs ls hl hw
    have hm : (none : Option (Int32 × mI × mA)) = some _ := hm
    cases hm
  | succ n ih =>
    intro l1 l2 l4 l5 l6 iv ar rz ivz arz hm H locs ls hl hw
    have hx := C.1.1
    have hb := C.1.2.1
    unfold mX12_addBack_L14 at hm
    refine lv_iload hx hb dX12_addBack_14 (lv_at hl 5 rfl) ?_
    refine lv_bipush (v := 8) hx hb dX12_addBack_16 cb_8 ?_
    refine lv_icmp_ge (tgt := 88) hx hb dX12_addBack_18 (by decide) (fun hc => ?_) (fun hc => ?_)
    · have hm := it_t hc hm
      refine lv_iload hx hb dX12_addBack_88 (lv_at hl 3 rfl) ?_
      cases hm
      exact g_iret C hw dX12_addBack_90
    · have hm := it_f hc hm
      refine lv_iload hx hb dX12_addBack_21 (lv_at hl 4 rfl) ?_
      refine lv_iload hx hb dX12_addBack_23 (lv_at hl 5 rfl) ?_
      refine lv_ishr hx hb dX12_addBack_25 ?_
      refine lv_iconst (v := 1) hx hb dX12_addBack_26 ci_1 ?_
      refine lv_iand hx hb dX12_addBack_27 ?_
      refine lv_iconst (v := 1) hx hb dX12_addBack_28 ci_1 ?_
      refine lv_icmp_ne (tgt := 82) hx hb dX12_addBack_29 (by decide) (fun hc => ?_) (fun hc => ?_)
      · have hm := it_f hc hm
        refine lv_iinc (v := (l6 + 1)) (lv' := [(6, .int (l6 + 1)), (0, .ref o), (1, .int l1), (2, .int l2), (4, .int l4), (5, .int l5)]) hx hb dX12_addBack_82 hl (k := 5) rfl (ii_ ci_1) (by decide) rfl (fun ls hl => ?_)
        refine lv_goto (tgt := 14) hx hb dX12_addBack_85 (by decide) ?_
        exact ih _ _ _ _ _ _ _ _ _ _ hm _ _ _ (lv_sub hl [1, 2, 3, 4, 5, 0] rfl) hw
      · have hm := it_t hc hm
        refine lv_aload_n hx hb dX12_addBack_32 rfl (lv_at hl 0 rfl) ?_
        refine lv_iload_n hx hb dX12_addBack_33 rfl (lv_at hl 1 rfl) ?_
        refine lv_iload_n hx hb dX12_addBack_34 rfl (lv_at hl 2 rfl) ?_
        refine lv_iload hx hb dX12_addBack_35 (lv_at hl 5 rfl) ?_
        obtain ⟨r37, iv37, ar37, hc37, hm⟩ := ob_some hm
        refine g_calli (As := [.int l1, .int l2, .int l6]) (rest := []) C hw (kX12_nextPair hc37) mtX12_nextPair lkX12_256 oM hl.1 rfl rfl (Nat.le_of_ble_eq_true rfl) ⟨Nat.le_of_ble_eq_true rfl, Nat.le_of_ble_eq_true rfl⟩ dX12_addBack_37 ⟨Nat.zero_le _, Nat.zero_le _⟩ (fun H locs hw => ?_)
        refine lv_istore (lv' := [(7, .int r37), (0, .ref o), (1, .int l1), (2, .int l2), (4, .int l4), (5, .int l5), (6, .int l6)]) hx hb dX12_addBack_40 hl (by decide) rfl (fun ls hl => ?_)
        refine lv_aload_n hx hb dX12_addBack_42 rfl (lv_at hl 1 rfl) ?_
        refine g_get C hw gM_11 dX12_addBack_43 ?_
        refine lv_iload hx hb dX12_addBack_46 (lv_at hl 4 rfl) ?_
        refine lv_sipush (v := 400) hx hb dX12_addBack_48 cs_400 ?_
        refine lv_iload_n hx hb dX12_addBack_51 rfl (lv_at hl 2 rfl) ?_
        refine lv_imul hx hb dX12_addBack_52 ?_
        refine lv_iload_n hx hb dX12_addBack_53 rfl (lv_at hl 3 rfl) ?_
        refine lv_iadd hx hb dX12_addBack_54 ?_
        obtain ⟨hi, hm⟩ := it_a hm
        refine g_ast C hw sM_11 hi dX12_addBack_55 (fun H locs hw => ?_)
        refine lv_aload_n hx hb dX12_addBack_56 rfl (lv_at hl 1 rfl) ?_
        refine g_get C hw gM_10 dX12_addBack_57 ?_
        refine lv_iload hx hb dX12_addBack_60 (lv_at hl 4 rfl) ?_
        refine lv_aload_n hx hb dX12_addBack_62 rfl (lv_at hl 1 rfl) ?_
        refine g_get C hw gM_9 dX12_addBack_63 ?_
        refine lv_iload hx hb dX12_addBack_66 (lv_at hl 0 rfl) ?_
        obtain ⟨hi, hm⟩ := it_a hm
        refine g_ald C hw aM_9 hi dX12_addBack_68 ?_
        obtain ⟨hi, hm⟩ := it_a hm
        refine g_ast C hw sM_10 hi dX12_addBack_69 (fun H locs hw => ?_)
        refine lv_aload_n hx hb dX12_addBack_70 rfl (lv_at hl 1 rfl) ?_
        refine g_get C hw gM_9 dX12_addBack_71 ?_
        refine lv_iload hx hb dX12_addBack_74 (lv_at hl 0 rfl) ?_
        refine lv_iload hx hb dX12_addBack_76 (lv_at hl 4 rfl) ?_
        obtain ⟨hi, hm⟩ := it_a hm
        refine g_ast C hw sM_9 hi dX12_addBack_78 (fun H locs hw => ?_)
        refine lv_iinc (v := (l4 + 1)) (lv' := [(4, .int (l4 + 1)), (7, .int r37), (0, .ref o), (1, .int l1), (2, .int l2), (5, .int l5), (6, .int l6)]) hx hb dX12_addBack_79 hl (k := 4) rfl (ii_ ci_1) (by decide) rfl (fun ls hl => ?_)
        refine lv_iinc (v := (l6 + 1)) (lv' := [(6, .int (l6 + 1)), (4, .int (l4 + 1)), (7, .int r37), (0, .ref o), (1, .int l1), (2, .int l2), (5, .int l5)]) hx hb dX12_addBack_82 hl (k := 6) rfl (ii_ ci_1) (by decide) rfl (fun ls hl => ?_)
        refine lv_goto (tgt := 14) hx hb dX12_addBack_85 (by decide) ?_
        exact ih _ _ _ _ _ _ _ _ _ _ hm _ _ _ (lv_sub hl [3, 4, 5, 1, 6, 0] rfl) hw
def mX12_addBack (a1 : Int32) (a2 : Int32) (a3 : Int32) (iv : mI) (ar : mA) : Option (Int32 × mI × mA) := ob (mX12_wanted a1 a2 iv ar) (fun r6 iv6 ar6 => mX12_addBack_L14 bigF a1 a2 a3 r6 0 iv6 ar6)
set_option maxRecDepth 100000 in
set_option maxHeartbeats 4000000 in
theorem kX12_addBack {a1 a2 a3 : Int32} {iv ivz : mI} {ar arz : mA} {rz : Int32} (hm : mX12_addBack a1 a2 a3 iv ar = some (rz, ivz, arz)) : Ct l D cI cJ yX12_addBack cX12_addBack 8 (some .int) 2 48 [.ref o, .int a1, .int a2, .int a3] (wM cI o ad iv ar) (wM cI o ad ivz arz) rz := by
  intro sz
  refine ct_of (by decide) (Nat.le_of_ble_eq_true rfl) ?_
  intro p e s m args below meth c C hw ls hl
  have hl : lv_has ls 8 [(0, .ref o), (1, .int a1), (2, .int a2), (3, .int a3)] := hl
  have hx := C.1.1
  have hb := C.1.2.1
  unfold mX12_addBack at hm
  refine lv_iload_n hx hb dX12_addBack_0 rfl (lv_at hl 3 rfl) ?_
  refine lv_istore (lv' := [(4, .int a3), (0, .ref o), (1, .int a1), (2, .int a2), (3, .int a3)]) hx hb dX12_addBack_1 hl (by decide) rfl (fun ls hl => ?_)
  refine lv_aload_n hx hb dX12_addBack_3 rfl (lv_at hl 1 rfl) ?_
  refine lv_iload_n hx hb dX12_addBack_4 rfl (lv_at hl 2 rfl) ?_
  refine lv_iload_n hx hb dX12_addBack_5 rfl (lv_at hl 3 rfl) ?_
  obtain ⟨r6, iv6, ar6, hc6, hm⟩ := ob_some hm
  refine g_calli (As := [.int a1, .int a2]) (rest := []) C hw (kX12_wanted hc6) mtX12_wanted lkX12_253 oM hl.1 rfl rfl (Nat.le_of_ble_eq_true rfl) ⟨Nat.le_of_ble_eq_true rfl, Nat.le_of_ble_eq_true rfl⟩ dX12_addBack_6 ⟨Nat.zero_le _, Nat.zero_le _⟩ (fun H locs hw => ?_)
  refine lv_istore (lv' := [(5, .int r6), (4, .int a3), (0, .ref o), (1, .int a1), (2, .int a2), (3, .int a3)]) hx hb dX12_addBack_9 hl (by decide) rfl (fun ls hl => ?_)
  refine lv_iconst (v := 0) hx hb dX12_addBack_11 ci_0 ?_
  refine lv_istore (lv' := [(6, .int 0), (5, .int r6), (4, .int a3), (0, .ref o), (1, .int a1), (2, .int a2), (3, .int a3)]) hx hb dX12_addBack_12 hl (by decide) rfl (fun ls hl => ?_)
  exact wX12_addBack_L14 C bigF _ _ _ _ _ _ _ _ _ _ hm _ _ _ (lv_sub hl [3, 4, 5, 2, 1, 0] rfl) hw
def mX12_measure_L175 (k153 : Int32 → Int32 → mI → mA → Option (Int32 × mI × mA)) : Nat → Int32 → Int32 → Int32 → Int32 → mI → mA → Option (Int32 × mI × mA)
  | 0, _, _, _, _, _, _ => none
  | n + 1, l1, l3, l4, l5, iv, ar => if l5 < 0 then k153 l1 (l3 + 1) iv ar else if l5 < 0 ∨ 320000 ≤ l5.toNatClampNeg then none else if (ar 11 l5.toNatClampNeg) < 0 ∨ 160000 ≤ (ar 11 l5.toNatClampNeg).toNatClampNeg then none else if 0 ≤ (ar 7 (ar 11 l5.toNatClampNeg).toNatClampNeg) then if l5 < 0 ∨ 320000 ≤ l5.toNatClampNeg then none else mX12_measure_L175 k153 n l1 l3 l4 (ar 10 l5.toNatClampNeg) iv ar else if l4 < 0 ∨ 160000 ≤ l4.toNatClampNeg then none else if (ar 11 l5.toNatClampNeg) < 0 ∨ 160000 ≤ (ar 11 l5.toNatClampNeg).toNatClampNeg then none else if l1 < 0 ∨ 160000 ≤ l1.toNatClampNeg then none else if l5 < 0 ∨ 320000 ≤ l5.toNatClampNeg then none else mX12_measure_L175 k153 n (l1 + 1) l3 l4 ((au (au ar 7 (ar 11 l5.toNatClampNeg).toNatClampNeg ((ar 7 l4.toNatClampNeg) + 1)) 8 l1.toNatClampNeg (ar 11 l5.toNatClampNeg)) 10 l5.toNatClampNeg) iv (au (au ar 7 (ar 11 l5.toNatClampNeg).toNatClampNeg ((ar 7 l4.toNatClampNeg) + 1)) 8 l1.toNatClampNeg (ar 11 l5.toNatClampNeg))
set_option maxRecDepth 100000 in
set_option maxHeartbeats 4000000 in
theorem wX12_measure_L175 {k153 : Int32 → Int32 → mI → mA → Option (Int32 × mI × mA)} (C : mCx p s m args meth c RX12 cX12_measure 7 none D cI cJ A) (hk153 : ∀ (l1 : Int32) (l3 : Int32) (iv : mI) (ar : mA) (rz : Int32) (ivz : mI) (arz : mA), k153 l1 l3 iv ar = some (rz, ivz, arz) → ∀ (H : Heap) (locs : List Loc) (ls : Array Slot), lv_has ls 7 [(0, .ref o), (1, .int l1), (3, .int l3)] → inW D A s (wM cI o ad iv ar) H locs → W p l e (rmO 3 75) s m args below meth c H locs 0 0 (MQ below (ctQv D cI cJ (wM cI o ad ivz arz) A) args s 0 0 A) (F0 m 153 ls [])) (n : Nat) : ∀ (l1 : Int32) (l3 : Int32) (l4 : Int32) (l5 : Int32) (iv : mI) (ar : mA) (rz : Int32) (ivz : mI) (arz : mA), mX12_measure_L175 k153 n l1 l3 l4 l5 iv ar = some (rz, ivz, arz) → ∀ (H : Heap) (locs : List Loc) (ls : Array Slot), lv_has ls 7 [(0, .ref o), (1, .int l1), (3, .int l3), (4, .int l4), (5, .int l5)] → inW D A s (wM cI o ad iv ar) H locs → W p l e (rmO 3 75) s m args below meth c H locs 0 0 (MQ below (ctQv D cI cJ (wM cI o ad ivz arz) A) args s 0 0 A) (F0 m 175 ls []) := by
  induction n with
  | zero =>
    intro l1 l3 l4 l5 iv ar rz ivz arz hm H locs ls hl hw
    have hm : (none : Option (Int32 × mI × mA)) = some _ := hm
    cases hm
  | succ n ih =>
    intro l1 l3 l4 l5 iv ar rz ivz arz hm H locs ls hl hw
    have hx := C.1.1
    have hb := C.1.2.1
    unfold mX12_measure_L175 at hm
    refine lv_iload hx hb dX12_measure_175 (lv_at hl 4 rfl) ?_
    refine lv_if_lt (tgt := 238) hx hb dX12_measure_177 (by decide) (fun hc => ?_) (fun hc => ?_)
    · have hm := it_t hc hm
      refine lv_iinc (v := (l3 + 1)) (lv' := [(3, .int (l3 + 1)), (0, .ref o), (1, .int l1), (4, .int l4), (5, .int l5)]) hx hb dX12_measure_238 hl (k := 2) rfl (ii_ ci_1) (by decide) rfl (fun ls hl => ?_)
      refine lv_goto (tgt := 153) hx hb dX12_measure_241 (by decide) ?_
      exact hk153 _ _ _ _ _ _ _ hm _ _ _ (lv_sub hl [1, 2, 0] rfl) hw
    · have hm := it_f hc hm
      refine lv_aload_n hx hb dX12_measure_180 rfl (lv_at hl 0 rfl) ?_
      refine g_get C hw gM_11 dX12_measure_181 ?_
      refine lv_iload hx hb dX12_measure_184 (lv_at hl 4 rfl) ?_
      obtain ⟨hi, hm⟩ := it_a hm
      refine g_ald C hw aM_11 hi dX12_measure_186 ?_
      refine lv_istore (lv' := [(6, .int (ar 11 l5.toNatClampNeg)), (0, .ref o), (1, .int l1), (3, .int l3), (4, .int l4), (5, .int l5)]) hx hb dX12_measure_187 hl (by decide) rfl (fun ls hl => ?_)
      refine lv_aload_n hx hb dX12_measure_189 rfl (lv_at hl 1 rfl) ?_
      refine g_get C hw gM_7 dX12_measure_190 ?_
      refine lv_iload hx hb dX12_measure_193 (lv_at hl 0 rfl) ?_
      obtain ⟨hi, hm⟩ := it_a hm
      refine g_ald C hw aM_7 hi dX12_measure_195 ?_
      refine lv_if_ge (tgt := 226) hx hb dX12_measure_196 (by decide) (fun hc => ?_) (fun hc => ?_)
      · have hm := it_t hc hm
        refine lv_aload_n hx hb dX12_measure_226 rfl (lv_at hl 1 rfl) ?_
        refine g_get C hw gM_10 dX12_measure_227 ?_
        refine lv_iload hx hb dX12_measure_230 (lv_at hl 5 rfl) ?_
        obtain ⟨hi, hm⟩ := it_a hm
        refine g_ald C hw aM_10 hi dX12_measure_232 ?_
        refine lv_istore (lv' := [(5, .int (ar 10 l5.toNatClampNeg)), (6, .int (ar 11 l5.toNatClampNeg)), (0, .ref o), (1, .int l1), (3, .int l3), (4, .int l4)]) hx hb dX12_measure_233 hl (by decide) rfl (fun ls hl => ?_)
        refine lv_goto (tgt := 175) hx hb dX12_measure_235 (by decide) ?_
        exact ih _ _ _ _ _ _ _ _ _ hm _ _ _ (lv_sub hl [2, 3, 4, 5, 0] rfl) hw
      · have hm := it_f hc hm
        refine lv_aload_n hx hb dX12_measure_199 rfl (lv_at hl 1 rfl) ?_
        refine g_get C hw gM_7 dX12_measure_200 ?_
        refine lv_iload hx hb dX12_measure_203 (lv_at hl 0 rfl) ?_
        refine lv_aload_n hx hb dX12_measure_205 rfl (lv_at hl 1 rfl) ?_
        refine g_get C hw gM_7 dX12_measure_206 ?_
        refine lv_iload hx hb dX12_measure_209 (lv_at hl 4 rfl) ?_
        obtain ⟨hi, hm⟩ := it_a hm
        refine g_ald C hw aM_7 hi dX12_measure_211 ?_
        refine lv_iconst (v := 1) hx hb dX12_measure_212 ci_1 ?_
        refine lv_iadd hx hb dX12_measure_213 ?_
        obtain ⟨hi, hm⟩ := it_a hm
        refine g_ast C hw sM_7 hi dX12_measure_214 (fun H locs hw => ?_)
        refine lv_aload_n hx hb dX12_measure_215 rfl (lv_at hl 1 rfl) ?_
        refine g_get C hw gM_8 dX12_measure_216 ?_
        refine lv_iload_n hx hb dX12_measure_219 rfl (lv_at hl 2 rfl) ?_
        refine lv_iload hx hb dX12_measure_220 (lv_at hl 0 rfl) ?_
        obtain ⟨hi, hm⟩ := it_a hm
        refine g_ast C hw sM_8 hi dX12_measure_222 (fun H locs hw => ?_)
        refine lv_iinc (v := (l1 + 1)) (lv' := [(1, .int (l1 + 1)), (6, .int (ar 11 l5.toNatClampNeg)), (0, .ref o), (3, .int l3), (4, .int l4), (5, .int l5)]) hx hb dX12_measure_223 hl (k := 2) rfl (ii_ ci_1) (by decide) rfl (fun ls hl => ?_)
        refine lv_aload_n hx hb dX12_measure_226 rfl (lv_at hl 2 rfl) ?_
        refine g_get C hw gM_10 dX12_measure_227 ?_
        refine lv_iload hx hb dX12_measure_230 (lv_at hl 5 rfl) ?_
        obtain ⟨hi, hm⟩ := it_a hm
        refine g_ald C hw aM_10 hi dX12_measure_232 ?_
        refine lv_istore (lv' := [(5, .int ((au (au ar 7 (ar 11 l5.toNatClampNeg).toNatClampNeg ((ar 7 l4.toNatClampNeg) + 1)) 8 l1.toNatClampNeg (ar 11 l5.toNatClampNeg)) 10 l5.toNatClampNeg)), (1, .int (l1 + 1)), (6, .int (ar 11 l5.toNatClampNeg)), (0, .ref o), (3, .int l3), (4, .int l4)]) hx hb dX12_measure_233 hl (by decide) rfl (fun ls hl => ?_)
        refine lv_goto (tgt := 175) hx hb dX12_measure_235 (by decide) ?_
        exact ih _ _ _ _ _ _ _ _ _ hm _ _ _ (lv_sub hl [3, 1, 4, 5, 0] rfl) hw
def mX12_measure_L153 : Nat → Int32 → Int32 → mI → mA → Option (Int32 × mI × mA)
  | 0, _, _, _, _ => none
  | n + 1, l1, l3, iv, ar => if l1 ≤ l3 then some (0, iv, ar) else if l3 < 0 ∨ 160000 ≤ l3.toNatClampNeg then none else if (ar 8 l3.toNatClampNeg) < 0 ∨ 160000 ≤ (ar 8 l3.toNatClampNeg).toNatClampNeg then none else mX12_measure_L175 (mX12_measure_L153 n) bigF l1 l3 (ar 8 l3.toNatClampNeg) (ar 9 (ar 8 l3.toNatClampNeg).toNatClampNeg) iv ar
set_option maxRecDepth 100000 in
set_option maxHeartbeats 4000000 in
theorem wX12_measure_L153 (C : mCx p s m args meth c RX12 cX12_measure 7 none D cI cJ A) (n : Nat) : ∀ (l1 : Int32) (l3 : Int32) (iv : mI) (ar : mA) (rz : Int32) (ivz : mI) (arz : mA), mX12_measure_L153 n l1 l3 iv ar = some (rz, ivz, arz) → ∀ (H : Heap) (locs : List Loc) (ls : Array Slot), lv_has ls 7 [(0, .ref o), (1, .int l1), (3, .int l3)] → inW D A s (wM cI o ad iv ar) H locs → W p l e (rmO 3 75) s m args below meth c H locs 0 0 (MQ below (ctQv D cI cJ (wM cI o ad ivz arz) A) args s 0 0 A) (F0 m 153 ls []) := by
  induction n with
  | zero =>
    intro l1 l3 iv ar rz ivz arz hm H locs ls hl hw
    have hm : (none : Option (Int32 × mI × mA)) = some _ := hm
    cases hm
  | succ n ih =>
    intro l1 l3 iv ar rz ivz arz hm H locs ls hl hw
    have hx := C.1.1
    have hb := C.1.2.1
    unfold mX12_measure_L153 at hm
    refine lv_iload_n hx hb dX12_measure_153 rfl (lv_at hl 2 rfl) ?_
    refine lv_iload_n hx hb dX12_measure_154 rfl (lv_at hl 1 rfl) ?_
    refine lv_icmp_ge (tgt := 244) hx hb dX12_measure_155 (by decide) (fun hc => ?_) (fun hc => ?_)
    · have hm := it_t hc hm
      cases hm
      exact g_vret C hw dX12_measure_244
    · have hm := it_f hc hm
      refine lv_aload_n hx hb dX12_measure_158 rfl (lv_at hl 0 rfl) ?_
      refine g_get C hw gM_8 dX12_measure_159 ?_
      refine lv_iload_n hx hb dX12_measure_162 rfl (lv_at hl 2 rfl) ?_
      obtain ⟨hi, hm⟩ := it_a hm
      refine g_ald C hw aM_8 hi dX12_measure_163 ?_
      refine lv_istore (lv' := [(4, .int (ar 8 l3.toNatClampNeg)), (0, .ref o), (1, .int l1), (3, .int l3)]) hx hb dX12_measure_164 hl (by decide) rfl (fun ls hl => ?_)
      refine lv_aload_n hx hb dX12_measure_166 rfl (lv_at hl 1 rfl) ?_
      refine g_get C hw gM_9 dX12_measure_167 ?_
      refine lv_iload hx hb dX12_measure_170 (lv_at hl 0 rfl) ?_
      obtain ⟨hi, hm⟩ := it_a hm
      refine g_ald C hw aM_9 hi dX12_measure_172 ?_
      refine lv_istore (lv' := [(5, .int (ar 9 (ar 8 l3.toNatClampNeg).toNatClampNeg)), (4, .int (ar 8 l3.toNatClampNeg)), (0, .ref o), (1, .int l1), (3, .int l3)]) hx hb dX12_measure_173 hl (by decide) rfl (fun ls hl => ?_)
      exact wX12_measure_L175 C ih bigF _ _ _ _ _ _ _ _ _ hm _ _ _ (lv_sub hl [2, 3, 4, 1, 0] rfl) hw
def mX12_measure_L79 (k68 : Int32 → Int32 → Int32 → mI → mA → Option (Int32 × mI × mA)) : Nat → Int32 → Int32 → Int32 → Int32 → mI → mA → Option (Int32 × mI × mA)
  | 0, _, _, _, _, _, _ => none
  | n + 1, l1, l2, l3, l4, iv, ar => if (iv 3) ≤ l4 then k68 l1 l2 (l3 + 1) iv ar else ob (mX12_fits l3 l4 iv ar) (fun r102 iv102 ar102 => if r102 = 0 then if ((400 * l3) + l4) < 0 ∨ 160000 ≤ ((400 * l3) + l4).toNatClampNeg then none else if l1 < 0 ∨ 160000 ≤ l1.toNatClampNeg then none else mX12_measure_L79 k68 n (l1 + 1) l2 l3 (l4 + 1) iv102 (au (au ar102 7 ((400 * l3) + l4).toNatClampNeg 0) 8 l1.toNatClampNeg ((400 * l3) + l4)) else ob (mX12_addBack l3 l4 l2 iv102 ar102) (fun r113 iv113 ar113 => mX12_measure_L79 k68 n l1 r113 l3 (l4 + 1) iv113 ar113))
set_option maxRecDepth 100000 in
set_option maxHeartbeats 4000000 in
theorem wX12_measure_L79 {k68 : Int32 → Int32 → Int32 → mI → mA → Option (Int32 × mI × mA)} (C : mCx p s m args meth c RX12 cX12_measure 7 none D cI cJ A) (hk68 : ∀ (l1 : Int32) (l2 : Int32) (l3 : Int32) (iv : mI) (ar : mA) (rz : Int32) (ivz : mI) (arz : mA), k68 l1 l2 l3 iv ar = some (rz, ivz, arz) → ∀ (H : Heap) (locs : List Loc) (ls : Array Slot), lv_has ls 7 [(0, .ref o), (1, .int l1), (2, .int l2), (3, .int l3)] → inW D A s (wM cI o ad iv ar) H locs → W p l e (rmO 3 75) s m args below meth c H locs 0 0 (MQ below (ctQv D cI cJ (wM cI o ad ivz arz) A) args s 0 0 A) (F0 m 68 ls [])) (n : Nat) : ∀ (l1 : Int32) (l2 : Int32) (l3 : Int32) (l4 : Int32) (iv : mI) (ar : mA) (rz : Int32) (ivz : mI) (arz : mA), mX12_measure_L79 k68 n l1 l2 l3 l4 iv ar = some (rz, ivz, arz) → ∀ (H : Heap) (locs : List Loc) (ls : Array Slot), lv_has ls 7 [(0, .ref o), (1, .int l1), (2, .int l2), (3, .int l3), (4, .int l4)] → inW D A s (wM cI o ad iv ar) H locs → W p l e (rmO 3 75) s m args below meth c H locs 0 0 (MQ below (ctQv D cI cJ (wM cI o ad ivz arz) A) args s 0 0 A) (F0 m 79 ls []) := by
  induction n with
  | zero =>
    intro l1 l2 l3 l4 iv ar rz ivz arz hm H locs ls hl hw
    have hm : (none : Option (Int32 × mI × mA)) = some _ := hm
    cases hm
  | succ n ih =>
    intro l1 l2 l3 l4 iv ar rz ivz arz hm H locs ls hl hw
    have hx := C.1.1
    have hb := C.1.2.1
    unfold mX12_measure_L79 at hm
    refine lv_iload hx hb dX12_measure_79 (lv_at hl 4 rfl) ?_
    refine lv_aload_n hx hb dX12_measure_81 rfl (lv_at hl 0 rfl) ?_
    refine g_get C hw gM_3 dX12_measure_82 ?_
    refine lv_icmp_ge (tgt := 145) hx hb dX12_measure_85 (by decide) (fun hc => ?_) (fun hc => ?_)
    · have hm := it_t hc hm
      refine lv_iinc (v := (l3 + 1)) (lv' := [(3, .int (l3 + 1)), (0, .ref o), (1, .int l1), (2, .int l2), (4, .int l4)]) hx hb dX12_measure_145 hl (k := 3) rfl (ii_ ci_1) (by decide) rfl (fun ls hl => ?_)
      refine lv_goto (tgt := 68) hx hb dX12_measure_148 (by decide) ?_
      exact hk68 _ _ _ _ _ _ _ _ hm _ _ _ (lv_sub hl [1, 2, 3, 0] rfl) hw
    · have hm := it_f hc hm
      refine lv_sipush (v := 400) hx hb dX12_measure_88 cs_400 ?_
      refine lv_iload_n hx hb dX12_measure_91 rfl (lv_at hl 3 rfl) ?_
      refine lv_imul hx hb dX12_measure_92 ?_
      refine lv_iload hx hb dX12_measure_93 (lv_at hl 4 rfl) ?_
      refine lv_iadd hx hb dX12_measure_95 ?_
      refine lv_istore (lv' := [(5, .int ((400 * l3) + l4)), (0, .ref o), (1, .int l1), (2, .int l2), (3, .int l3), (4, .int l4)]) hx hb dX12_measure_96 hl (by decide) rfl (fun ls hl => ?_)
      refine lv_aload_n hx hb dX12_measure_98 rfl (lv_at hl 1 rfl) ?_
      refine lv_iload_n hx hb dX12_measure_99 rfl (lv_at hl 4 rfl) ?_
      refine lv_iload hx hb dX12_measure_100 (lv_at hl 5 rfl) ?_
      obtain ⟨r102, iv102, ar102, hc102, hm⟩ := ob_some hm
      refine g_calli (As := [.int l3, .int l4]) (rest := []) C hw (kX12_fits hc102) mtX12_fits lkX12_245 oM hl.1 rfl rfl (Nat.le_of_ble_eq_true rfl) ⟨Nat.le_of_ble_eq_true rfl, Nat.le_of_ble_eq_true rfl⟩ dX12_measure_102 ⟨Nat.zero_le _, Nat.zero_le _⟩ (fun H locs hw => ?_)
      refine lv_if_eq (tgt := 120) hx hb dX12_measure_105 (by decide) (fun hc => ?_) (fun hc => ?_)
      · have hm := it_t hc hm
        refine lv_aload_n hx hb dX12_measure_120 rfl (lv_at hl 1 rfl) ?_
        refine g_get C hw gM_7 dX12_measure_121 ?_
        refine lv_iload hx hb dX12_measure_124 (lv_at hl 0 rfl) ?_
        refine lv_iconst (v := 0) hx hb dX12_measure_126 ci_0 ?_
        obtain ⟨hi, hm⟩ := it_a hm
        refine g_ast C hw sM_7 hi dX12_measure_127 (fun H locs hw => ?_)
        refine lv_aload_n hx hb dX12_measure_128 rfl (lv_at hl 1 rfl) ?_
        refine g_get C hw gM_8 dX12_measure_129 ?_
        refine lv_iload_n hx hb dX12_measure_132 rfl (lv_at hl 2 rfl) ?_
        refine lv_iload hx hb dX12_measure_133 (lv_at hl 0 rfl) ?_
        obtain ⟨hi, hm⟩ := it_a hm
        refine g_ast C hw sM_8 hi dX12_measure_135 (fun H locs hw => ?_)
        refine lv_iinc (v := (l1 + 1)) (lv' := [(1, .int (l1 + 1)), (5, .int ((400 * l3) + l4)), (0, .ref o), (2, .int l2), (3, .int l3), (4, .int l4)]) hx hb dX12_measure_136 hl (k := 2) rfl (ii_ ci_1) (by decide) rfl (fun ls hl => ?_)
        refine lv_iinc (v := (l4 + 1)) (lv' := [(4, .int (l4 + 1)), (1, .int (l1 + 1)), (5, .int ((400 * l3) + l4)), (0, .ref o), (2, .int l2), (3, .int l3)]) hx hb dX12_measure_139 hl (k := 5) rfl (ii_ ci_1) (by decide) rfl (fun ls hl => ?_)
        refine lv_goto (tgt := 79) hx hb dX12_measure_142 (by decide) ?_
        exact ih _ _ _ _ _ _ _ _ _ hm _ _ _ (lv_sub hl [3, 1, 4, 5, 0] rfl) hw
      · have hm := it_f hc hm
        refine lv_aload_n hx hb dX12_measure_108 rfl (lv_at hl 1 rfl) ?_
        refine lv_iload_n hx hb dX12_measure_109 rfl (lv_at hl 4 rfl) ?_
        refine lv_iload hx hb dX12_measure_110 (lv_at hl 5 rfl) ?_
        refine lv_iload_n hx hb dX12_measure_112 rfl (lv_at hl 3 rfl) ?_
        obtain ⟨r113, iv113, ar113, hc113, hm⟩ := ob_some hm
        refine g_calli (As := [.int l3, .int l4, .int l2]) (rest := []) C hw (kX12_addBack hc113) mtX12_addBack lkX12_249 oM hl.1 rfl rfl (Nat.le_of_ble_eq_true rfl) ⟨Nat.le_of_ble_eq_true rfl, Nat.le_of_ble_eq_true rfl⟩ dX12_measure_113 ⟨Nat.zero_le _, Nat.zero_le _⟩ (fun H locs hw => ?_)
        refine lv_istore_n (lv' := [(2, .int r113), (5, .int ((400 * l3) + l4)), (0, .ref o), (1, .int l1), (3, .int l3), (4, .int l4)]) hx hb dX12_measure_116 rfl hl (by decide) rfl (fun ls hl => ?_)
        refine lv_goto (tgt := 139) hx hb dX12_measure_117 (by decide) ?_
        refine lv_iinc (v := (l4 + 1)) (lv' := [(4, .int (l4 + 1)), (2, .int r113), (5, .int ((400 * l3) + l4)), (0, .ref o), (1, .int l1), (3, .int l3)]) hx hb dX12_measure_139 hl (k := 5) rfl (ii_ ci_1) (by decide) rfl (fun ls hl => ?_)
        refine lv_goto (tgt := 79) hx hb dX12_measure_142 (by decide) ?_
        exact ih _ _ _ _ _ _ _ _ _ hm _ _ _ (lv_sub hl [3, 4, 1, 5, 0] rfl) hw
def mX12_measure_L68 : Nat → Int32 → Int32 → Int32 → mI → mA → Option (Int32 × mI × mA)
  | 0, _, _, _, _, _ => none
  | n + 1, l1, l2, l3, iv, ar => if (iv 3) ≤ l3 then mX12_measure_L153 bigF l1 0 iv ar else mX12_measure_L79 (mX12_measure_L68 n) bigF l1 l2 l3 0 iv ar
set_option maxRecDepth 100000 in
set_option maxHeartbeats 4000000 in
theorem wX12_measure_L68 (C : mCx p s m args meth c RX12 cX12_measure 7 none D cI cJ A) (n : Nat) : ∀ (l1 : Int32) (l2 : Int32) (l3 : Int32) (iv : mI) (ar : mA) (rz : Int32) (ivz : mI) (arz : mA), mX12_measure_L68 n l1 l2 l3 iv ar = some (rz, ivz, arz) → ∀ (H : Heap) (locs : List Loc) (ls : Array Slot), lv_has ls 7 [(0, .ref o), (1, .int l1), (2, .int l2), (3, .int l3)] → inW D A s (wM cI o ad iv ar) H locs → W p l e (rmO 3 75) s m args below meth c H locs 0 0 (MQ below (ctQv D cI cJ (wM cI o ad ivz arz) A) args s 0 0 A) (F0 m 68 ls []) := by
  induction n with
  | zero =>
    intro l1 l2 l3 iv ar rz ivz arz hm H locs ls hl hw
    have hm : (none : Option (Int32 × mI × mA)) = some _ := hm
    cases hm
  | succ n ih =>
    intro l1 l2 l3 iv ar rz ivz arz hm H locs ls hl hw
    have hx := C.1.1
    have hb := C.1.2.1
    unfold mX12_measure_L68 at hm
    refine lv_iload_n hx hb dX12_measure_68 rfl (lv_at hl 3 rfl) ?_
    refine lv_aload_n hx hb dX12_measure_69 rfl (lv_at hl 0 rfl) ?_
    refine g_get C hw gM_3 dX12_measure_70 ?_
    refine lv_icmp_ge (tgt := 151) hx hb dX12_measure_73 (by decide) (fun hc => ?_) (fun hc => ?_)
    · have hm := it_t hc hm
      refine lv_iconst (v := 0) hx hb dX12_measure_151 ci_0 ?_
      refine lv_istore_n (lv' := [(3, .int 0), (0, .ref o), (1, .int l1), (2, .int l2)]) hx hb dX12_measure_152 rfl hl (by decide) rfl (fun ls hl => ?_)
      exact wX12_measure_L153 C bigF _ _ _ _ _ _ _ hm _ _ _ (lv_sub hl [1, 2, 0] rfl) hw
    · have hm := it_f hc hm
      refine lv_iconst (v := 0) hx hb dX12_measure_76 ci_0 ?_
      refine lv_istore (lv' := [(4, .int 0), (0, .ref o), (1, .int l1), (2, .int l2), (3, .int l3)]) hx hb dX12_measure_77 hl (by decide) rfl (fun ls hl => ?_)
      exact wX12_measure_L79 C ih bigF _ _ _ _ _ _ _ _ _ hm _ _ _ (lv_sub hl [1, 2, 3, 4, 0] rfl) hw
def mX12_measure_L17 (k6 : Int32 → Int32 → Int32 → mI → mA → Option (Int32 × mI × mA)) : Nat → Int32 → Int32 → Int32 → Int32 → mI → mA → Option (Int32 × mI × mA)
  | 0, _, _, _, _, _, _ => none
  | n + 1, l1, l2, l3, l4, iv, ar => if (iv 3) ≤ l4 then k6 l1 l2 (l3 + 1) iv ar else if ((400 * l3) + l4) < 0 ∨ 160000 ≤ ((400 * l3) + l4).toNatClampNeg then none else if ((400 * l3) + l4) < 0 ∨ 160000 ≤ ((400 * l3) + l4).toNatClampNeg then none else mX12_measure_L17 k6 n l1 l2 l3 (l4 + 1) iv (au (au ar 7 ((400 * l3) + l4).toNatClampNeg (-1)) 9 ((400 * l3) + l4).toNatClampNeg (-1))
set_option maxRecDepth 100000 in
set_option maxHeartbeats 4000000 in
theorem wX12_measure_L17 {k6 : Int32 → Int32 → Int32 → mI → mA → Option (Int32 × mI × mA)} (C : mCx p s m args meth c RX12 cX12_measure 7 none D cI cJ A) (hk6 : ∀ (l1 : Int32) (l2 : Int32) (l3 : Int32) (iv : mI) (ar : mA) (rz : Int32) (ivz : mI) (arz : mA), k6 l1 l2 l3 iv ar = some (rz, ivz, arz) → ∀ (H : Heap) (locs : List Loc) (ls : Array Slot), lv_has ls 7 [(0, .ref o), (1, .int l1), (2, .int l2), (3, .int l3)] → inW D A s (wM cI o ad iv ar) H locs → W p l e (rmO 3 75) s m args below meth c H locs 0 0 (MQ below (ctQv D cI cJ (wM cI o ad ivz arz) A) args s 0 0 A) (F0 m 6 ls [])) (n : Nat) : ∀ (l1 : Int32) (l2 : Int32) (l3 : Int32) (l4 : Int32) (iv : mI) (ar : mA) (rz : Int32) (ivz : mI) (arz : mA), mX12_measure_L17 k6 n l1 l2 l3 l4 iv ar = some (rz, ivz, arz) → ∀ (H : Heap) (locs : List Loc) (ls : Array Slot), lv_has ls 7 [(0, .ref o), (1, .int l1), (2, .int l2), (3, .int l3), (4, .int l4)] → inW D A s (wM cI o ad iv ar) H locs → W p l e (rmO 3 75) s m args below meth c H locs 0 0 (MQ below (ctQv D cI cJ (wM cI o ad ivz arz) A) args s 0 0 A) (F0 m 17 ls []) := by
  induction n with
  | zero =>
    intro l1 l2 l3 l4 iv ar rz ivz arz hm H locs ls hl hw
    have hm : (none : Option (Int32 × mI × mA)) = some _ := hm
    cases hm
  | succ n ih =>
    intro l1 l2 l3 l4 iv ar rz ivz arz hm H locs ls hl hw
    have hx := C.1.1
    have hb := C.1.2.1
    unfold mX12_measure_L17 at hm
    refine lv_iload hx hb dX12_measure_17 (lv_at hl 4 rfl) ?_
    refine lv_aload_n hx hb dX12_measure_19 rfl (lv_at hl 0 rfl) ?_
    refine g_get C hw gM_3 dX12_measure_20 ?_
    refine lv_icmp_ge (tgt := 60) hx hb dX12_measure_23 (by decide) (fun hc => ?_) (fun hc => ?_)
    · have hm := it_t hc hm
      refine lv_iinc (v := (l3 + 1)) (lv' := [(3, .int (l3 + 1)), (0, .ref o), (1, .int l1), (2, .int l2), (4, .int l4)]) hx hb dX12_measure_60 hl (k := 3) rfl (ii_ ci_1) (by decide) rfl (fun ls hl => ?_)
      refine lv_goto (tgt := 6) hx hb dX12_measure_63 (by decide) ?_
      exact hk6 _ _ _ _ _ _ _ _ hm _ _ _ (lv_sub hl [1, 2, 3, 0] rfl) hw
    · have hm := it_f hc hm
      refine lv_aload_n hx hb dX12_measure_26 rfl (lv_at hl 0 rfl) ?_
      refine g_get C hw gM_7 dX12_measure_27 ?_
      refine lv_sipush (v := 400) hx hb dX12_measure_30 cs_400 ?_
      refine lv_iload_n hx hb dX12_measure_33 rfl (lv_at hl 3 rfl) ?_
      refine lv_imul hx hb dX12_measure_34 ?_
      refine lv_iload hx hb dX12_measure_35 (lv_at hl 4 rfl) ?_
      refine lv_iadd hx hb dX12_measure_37 ?_
      refine lv_iconst (v := (-1)) hx hb dX12_measure_38 ci_m1 ?_
      obtain ⟨hi, hm⟩ := it_a hm
      refine g_ast C hw sM_7 hi dX12_measure_39 (fun H locs hw => ?_)
      refine lv_aload_n hx hb dX12_measure_40 rfl (lv_at hl 0 rfl) ?_
      refine g_get C hw gM_9 dX12_measure_41 ?_
      refine lv_sipush (v := 400) hx hb dX12_measure_44 cs_400 ?_
      refine lv_iload_n hx hb dX12_measure_47 rfl (lv_at hl 3 rfl) ?_
      refine lv_imul hx hb dX12_measure_48 ?_
      refine lv_iload hx hb dX12_measure_49 (lv_at hl 4 rfl) ?_
      refine lv_iadd hx hb dX12_measure_51 ?_
      refine lv_iconst (v := (-1)) hx hb dX12_measure_52 ci_m1 ?_
      obtain ⟨hi, hm⟩ := it_a hm
      refine g_ast C hw sM_9 hi dX12_measure_53 (fun H locs hw => ?_)
      refine lv_iinc (v := (l4 + 1)) (lv' := [(4, .int (l4 + 1)), (0, .ref o), (1, .int l1), (2, .int l2), (3, .int l3)]) hx hb dX12_measure_54 hl (k := 4) rfl (ii_ ci_1) (by decide) rfl (fun ls hl => ?_)
      refine lv_goto (tgt := 17) hx hb dX12_measure_57 (by decide) ?_
      exact ih _ _ _ _ _ _ _ _ _ hm _ _ _ (lv_sub hl [1, 2, 3, 4, 0] rfl) hw
def mX12_measure_L6 : Nat → Int32 → Int32 → Int32 → mI → mA → Option (Int32 × mI × mA)
  | 0, _, _, _, _, _ => none
  | n + 1, l1, l2, l3, iv, ar => if (iv 3) ≤ l3 then mX12_measure_L68 bigF l1 l2 0 iv ar else mX12_measure_L17 (mX12_measure_L6 n) bigF l1 l2 l3 0 iv ar
set_option maxRecDepth 100000 in
set_option maxHeartbeats 4000000 in
theorem wX12_measure_L6 (C : mCx p s m args meth c RX12 cX12_measure 7 none D cI cJ A) (n : Nat) : ∀ (l1 : Int32) (l2 : Int32) (l3 : Int32) (iv : mI) (ar : mA) (rz : Int32) (ivz : mI) (arz : mA), mX12_measure_L6 n l1 l2 l3 iv ar = some (rz, ivz, arz) → ∀ (H : Heap) (locs : List Loc) (ls : Array Slot), lv_has ls 7 [(0, .ref o), (1, .int l1), (2, .int l2), (3, .int l3)] → inW D A s (wM cI o ad iv ar) H locs → W p l e (rmO 3 75) s m args below meth c H locs 0 0 (MQ below (ctQv D cI cJ (wM cI o ad ivz arz) A) args s 0 0 A) (F0 m 6 ls []) := by
  induction n with
  | zero =>
    intro l1 l2 l3 iv ar rz ivz arz hm H locs ls hl hw
    have hm : (none : Option (Int32 × mI × mA)) = some _ := hm
    cases hm
  | succ n ih =>
    intro l1 l2 l3 iv ar rz ivz arz hm H locs ls hl hw
    have hx := C.1.1
    have hb := C.1.2.1
    unfold mX12_measure_L6 at hm
    refine lv_iload_n hx hb dX12_measure_6 rfl (lv_at hl 3 rfl) ?_
    refine lv_aload_n hx hb dX12_measure_7 rfl (lv_at hl 0 rfl) ?_
    refine g_get C hw gM_3 dX12_measure_8 ?_
    refine lv_icmp_ge (tgt := 66) hx hb dX12_measure_11 (by decide) (fun hc => ?_) (fun hc => ?_)
    · have hm := it_t hc hm
      refine lv_iconst (v := 0) hx hb dX12_measure_66 ci_0 ?_
      refine lv_istore_n (lv' := [(3, .int 0), (0, .ref o), (1, .int l1), (2, .int l2)]) hx hb dX12_measure_67 rfl hl (by decide) rfl (fun ls hl => ?_)
      exact wX12_measure_L68 C bigF _ _ _ _ _ _ _ _ hm _ _ _ (lv_sub hl [1, 2, 3, 0] rfl) hw
    · have hm := it_f hc hm
      refine lv_iconst (v := 0) hx hb dX12_measure_14 ci_0 ?_
      refine lv_istore (lv' := [(4, .int 0), (0, .ref o), (1, .int l1), (2, .int l2), (3, .int l3)]) hx hb dX12_measure_15 hl (by decide) rfl (fun ls hl => ?_)
      exact wX12_measure_L17 C ih bigF _ _ _ _ _ _ _ _ _ hm _ _ _ (lv_sub hl [1, 2, 3, 4, 0] rfl) hw
def mX12_measure  (iv : mI) (ar : mA) : Option (Int32 × mI × mA) := mX12_measure_L6 bigF 0 0 0 iv ar
set_option maxRecDepth 100000 in
set_option maxHeartbeats 4000000 in
theorem kX12_measure {iv ivz : mI} {ar arz : mA} {rz : Int32} (hm : mX12_measure iv ar = some (rz, ivz, arz)) : CtV l D cI cJ yX12_measure cX12_measure 7 3 75 [.ref o] (wM cI o ad iv ar) (wM cI o ad ivz arz) := by
  intro sz
  refine ct_of (by decide) (Nat.le_of_ble_eq_true rfl) ?_
  intro p e s m args below meth c C hw ls hl
  have hl : lv_has ls 7 [(0, .ref o)] := hl
  have hx := C.1.1
  have hb := C.1.2.1
  unfold mX12_measure at hm
  refine lv_iconst (v := 0) hx hb dX12_measure_0 ci_0 ?_
  refine lv_istore_n (lv' := [(1, .int 0), (0, .ref o)]) hx hb dX12_measure_1 rfl hl (by decide) rfl (fun ls hl => ?_)
  refine lv_iconst (v := 0) hx hb dX12_measure_2 ci_0 ?_
  refine lv_istore_n (lv' := [(2, .int 0), (1, .int 0), (0, .ref o)]) hx hb dX12_measure_3 rfl hl (by decide) rfl (fun ls hl => ?_)
  refine lv_iconst (v := 0) hx hb dX12_measure_4 ci_0 ?_
  refine lv_istore_n (lv' := [(3, .int 0), (2, .int 0), (1, .int 0), (0, .ref o)]) hx hb dX12_measure_5 rfl hl (by decide) rfl (fun ls hl => ?_)
  exact wX12_measure_L6 C bigF _ _ _ _ _ _ _ _ hm _ _ _ (lv_sub hl [3, 2, 1, 0] rfl) hw
def mX12_farOf (a1 : Int32) (a2 : Int32) (iv : mI) (ar : mA) : Option (Int32 × mI × mA) := ob (mX12_measure iv ar) (fun r1 iv1 ar1 => if ((400 * a1) + a2) < 0 ∨ 160000 ≤ ((400 * a1) + a2).toNatClampNeg then none else some ((ar1 7 ((400 * a1) + a2).toNatClampNeg), iv1, ar1))
set_option maxRecDepth 100000 in
set_option maxHeartbeats 4000000 in
theorem kX12_farOf {a1 a2 : Int32} {iv ivz : mI} {ar arz : mA} {rz : Int32} (hm : mX12_farOf a1 a2 iv ar = some (rz, ivz, arz)) : Ct l D cI cJ yX12_farOf cX12_farOf 3 (some .int) 4 101 [.ref o, .int a1, .int a2] (wM cI o ad iv ar) (wM cI o ad ivz arz) rz := by
  intro sz
  refine ct_of (by decide) (Nat.le_of_ble_eq_true rfl) ?_
  intro p e s m args below meth c C hw ls hl
  have hl : lv_has ls 3 [(0, .ref o), (1, .int a1), (2, .int a2)] := hl
  have hx := C.1.1
  have hb := C.1.2.1
  unfold mX12_farOf at hm
  refine lv_aload_n hx hb dX12_farOf_0 rfl (lv_at hl 0 rfl) ?_
  obtain ⟨r1, iv1, ar1, hc1, hm⟩ := ob_some hm
  refine g_callv (As := []) (rest := []) C hw (kX12_measure hc1) mtX12_measure lkX12_259 oM hl.1 rfl rfl (Nat.le_of_ble_eq_true rfl) ⟨Nat.le_of_ble_eq_true rfl, Nat.le_of_ble_eq_true rfl⟩ dX12_farOf_1 ⟨Nat.zero_le _, Nat.zero_le _⟩ (fun H locs hw => ?_)
  refine lv_aload_n hx hb dX12_farOf_4 rfl (lv_at hl 0 rfl) ?_
  refine g_get C hw gM_7 dX12_farOf_5 ?_
  refine lv_sipush (v := 400) hx hb dX12_farOf_8 cs_400 ?_
  refine lv_iload_n hx hb dX12_farOf_11 rfl (lv_at hl 1 rfl) ?_
  refine lv_imul hx hb dX12_farOf_12 ?_
  refine lv_iload_n hx hb dX12_farOf_13 rfl (lv_at hl 2 rfl) ?_
  refine lv_iadd hx hb dX12_farOf_14 ?_
  obtain ⟨hi, hm⟩ := it_a hm
  refine g_ald C hw aM_7 hi dX12_farOf_15 ?_
  cases hm
  exact g_iret C hw dX12_farOf_16
def mX12_isBelow (a1 : Int32) (a2 : Int32) (iv : mI) (ar : mA) : Option (Int32 × mI × mA) := ob (mX12_farOf a1 a2 iv ar) (fun r3 iv3 ar3 => if 0 ≤ r3 then some (0, iv3, ar3) else some (1, iv3, ar3))
set_option maxRecDepth 100000 in
set_option maxHeartbeats 4000000 in
theorem kX12_isBelow {a1 a2 : Int32} {iv ivz : mI} {ar arz : mA} {rz : Int32} (hm : mX12_isBelow a1 a2 iv ar = some (rz, ivz, arz)) : Ct l D cI cJ yX12_isBelow cX12_isBelow 3 (some .boolean) 5 123 [.ref o, .int a1, .int a2] (wM cI o ad iv ar) (wM cI o ad ivz arz) rz := by
  intro sz
  refine ct_of (by decide) (Nat.le_of_ble_eq_true rfl) ?_
  intro p e s m args below meth c C hw ls hl
  have hl : lv_has ls 3 [(0, .ref o), (1, .int a1), (2, .int a2)] := hl
  have hx := C.1.1
  have hb := C.1.2.1
  unfold mX12_isBelow at hm
  refine lv_aload_n hx hb dX12_isBelow_0 rfl (lv_at hl 0 rfl) ?_
  refine lv_iload_n hx hb dX12_isBelow_1 rfl (lv_at hl 1 rfl) ?_
  refine lv_iload_n hx hb dX12_isBelow_2 rfl (lv_at hl 2 rfl) ?_
  obtain ⟨r3, iv3, ar3, hc3, hm⟩ := ob_some hm
  refine g_calli (As := [.int a1, .int a2]) (rest := []) C hw (kX12_farOf hc3) mtX12_farOf lkX12_262 oM hl.1 rfl rfl (Nat.le_of_ble_eq_true rfl) ⟨Nat.le_of_ble_eq_true rfl, Nat.le_of_ble_eq_true rfl⟩ dX12_isBelow_3 ⟨Nat.zero_le _, Nat.zero_le _⟩ (fun H locs hw => ?_)
  refine lv_if_ge (tgt := 13) hx hb dX12_isBelow_6 (by decide) (fun hc => ?_) (fun hc => ?_)
  · have hm := it_t hc hm
    refine lv_iconst (v := 0) hx hb dX12_isBelow_13 ci_0 ?_
    cases hm
    exact g_zret C hw (Or.inl rfl) dX12_isBelow_14
  · have hm := it_f hc hm
    refine lv_iconst (v := 1) hx hb dX12_isBelow_9 ci_1 ?_
    refine lv_goto (tgt := 14) hx hb dX12_isBelow_10 (by decide) ?_
    cases hm
    exact g_zret C hw (Or.inr rfl) dX12_isBelow_14
def mX12_below (a1 : Int32) (a2 : Int32) (iv : mI) (ar : mA) : Option (Int32 × mI × mA) := ob (mX12_isNode a1 iv ar) (fun r2 iv2 ar2 => if r2 = 0 then some ((-2), iv2, ar2) else ob (mX12_isNode a2 iv2 ar2) (fun r10 iv10 ar10 => if r10 = 0 then some ((-2), iv10, ar10) else ob (mX12_isBelow a1 a2 iv10 ar10) (fun r24 iv24 ar24 => if r24 = 0 then some (0, iv24, ar24) else some (1, iv24, ar24))))
set_option maxRecDepth 100000 in
set_option maxHeartbeats 4000000 in
theorem kX12_below {a1 a2 : Int32} {iv ivz : mI} {ar arz : mA} {rz : Int32} (hm : mX12_below a1 a2 iv ar = some (rz, ivz, arz)) : Ct l D cI cJ yX12_below cX12_below 3 (some .int) 6 145 [.ref o, .int a1, .int a2] (wM cI o ad iv ar) (wM cI o ad ivz arz) rz := by
  intro sz
  refine ct_of (by decide) (Nat.le_of_ble_eq_true rfl) ?_
  intro p e s m args below meth c C hw ls hl
  have hl : lv_has ls 3 [(0, .ref o), (1, .int a1), (2, .int a2)] := hl
  have hx := C.1.1
  have hb := C.1.2.1
  unfold mX12_below at hm
  refine lv_aload_n hx hb dX12_below_0 rfl (lv_at hl 0 rfl) ?_
  refine lv_iload_n hx hb dX12_below_1 rfl (lv_at hl 1 rfl) ?_
  obtain ⟨r2, iv2, ar2, hc2, hm⟩ := ob_some hm
  refine g_calli (As := [.int a1]) (rest := []) C hw (kX12_isNode hc2) mtX12_isNode lkX12_265 oM hl.1 rfl rfl (Nat.le_of_ble_eq_true rfl) ⟨Nat.le_of_ble_eq_true rfl, Nat.le_of_ble_eq_true rfl⟩ dX12_below_2 ⟨Nat.zero_le _, Nat.zero_le _⟩ (fun H locs hw => ?_)
  refine lv_if_eq (tgt := 16) hx hb dX12_below_5 (by decide) (fun hc => ?_) (fun hc => ?_)
  · have hm := it_t hc hm
    refine lv_bipush (v := (-2)) hx hb dX12_below_16 cb_m2 ?_
    refine lv_goto (tgt := 35) hx hb dX12_below_18 (by decide) ?_
    cases hm
    exact g_iret C hw dX12_below_35
  · have hm := it_f hc hm
    refine lv_aload_n hx hb dX12_below_8 rfl (lv_at hl 0 rfl) ?_
    refine lv_iload_n hx hb dX12_below_9 rfl (lv_at hl 2 rfl) ?_
    obtain ⟨r10, iv10, ar10, hc10, hm⟩ := ob_some hm
    refine g_calli (As := [.int a2]) (rest := []) C hw (kX12_isNode hc10) mtX12_isNode lkX12_265 oM hl.1 rfl rfl (Nat.le_of_ble_eq_true rfl) ⟨Nat.le_of_ble_eq_true rfl, Nat.le_of_ble_eq_true rfl⟩ dX12_below_10 ⟨Nat.zero_le _, Nat.zero_le _⟩ (fun H locs hw => ?_)
    refine lv_if_ne (tgt := 21) hx hb dX12_below_13 (by decide) (fun hc => ?_) (fun hc => ?_)
    · have hm := it_f hc hm
      refine lv_aload_n hx hb dX12_below_21 rfl (lv_at hl 0 rfl) ?_
      refine lv_iload_n hx hb dX12_below_22 rfl (lv_at hl 1 rfl) ?_
      refine lv_iload_n hx hb dX12_below_23 rfl (lv_at hl 2 rfl) ?_
      obtain ⟨r24, iv24, ar24, hc24, hm⟩ := ob_some hm
      refine g_calli (As := [.int a1, .int a2]) (rest := []) C hw (kX12_isBelow hc24) mtX12_isBelow lkX12_269 oM hl.1 rfl rfl (Nat.le_of_ble_eq_true rfl) ⟨Nat.le_of_ble_eq_true rfl, Nat.le_of_ble_eq_true rfl⟩ dX12_below_24 ⟨Nat.zero_le _, Nat.zero_le _⟩ (fun H locs hw => ?_)
      refine lv_if_eq (tgt := 34) hx hb dX12_below_27 (by decide) (fun hc => ?_) (fun hc => ?_)
      · have hm := it_t hc hm
        refine lv_iconst (v := 0) hx hb dX12_below_34 ci_0 ?_
        cases hm
        exact g_iret C hw dX12_below_35
      · have hm := it_f hc hm
        refine lv_iconst (v := 1) hx hb dX12_below_30 ci_1 ?_
        refine lv_goto (tgt := 35) hx hb dX12_below_31 (by decide) ?_
        cases hm
        exact g_iret C hw dX12_below_35
    · have hm := it_t hc hm
      refine lv_bipush (v := (-2)) hx hb dX12_below_16 cb_m2 ?_
      refine lv_goto (tgt := 35) hx hb dX12_below_18 (by decide) ?_
      cases hm
      exact g_iret C hw dX12_below_35
def mX12_depth (a1 : Int32) (a2 : Int32) (iv : mI) (ar : mA) : Option (Int32 × mI × mA) := ob (mX12_isNode a1 iv ar) (fun r2 iv2 ar2 => if r2 = 0 then some ((-2), iv2, ar2) else ob (mX12_isNode a2 iv2 ar2) (fun r10 iv10 ar10 => if r10 = 0 then some ((-2), iv10, ar10) else ob (mX12_farOf a1 a2 iv10 ar10) (fun r24 iv24 ar24 => some (r24, iv24, ar24))))
set_option maxRecDepth 100000 in
set_option maxHeartbeats 4000000 in
theorem kX12_depth {a1 a2 : Int32} {iv ivz : mI} {ar arz : mA} {rz : Int32} (hm : mX12_depth a1 a2 iv ar = some (rz, ivz, arz)) : Ct l D cI cJ yX12_depth cX12_depth 3 (some .int) 5 123 [.ref o, .int a1, .int a2] (wM cI o ad iv ar) (wM cI o ad ivz arz) rz := by
  intro sz
  refine ct_of (by decide) (Nat.le_of_ble_eq_true rfl) ?_
  intro p e s m args below meth c C hw ls hl
  have hl : lv_has ls 3 [(0, .ref o), (1, .int a1), (2, .int a2)] := hl
  have hx := C.1.1
  have hb := C.1.2.1
  unfold mX12_depth at hm
  refine lv_aload_n hx hb dX12_depth_0 rfl (lv_at hl 0 rfl) ?_
  refine lv_iload_n hx hb dX12_depth_1 rfl (lv_at hl 1 rfl) ?_
  obtain ⟨r2, iv2, ar2, hc2, hm⟩ := ob_some hm
  refine g_calli (As := [.int a1]) (rest := []) C hw (kX12_isNode hc2) mtX12_isNode lkX12_265 oM hl.1 rfl rfl (Nat.le_of_ble_eq_true rfl) ⟨Nat.le_of_ble_eq_true rfl, Nat.le_of_ble_eq_true rfl⟩ dX12_depth_2 ⟨Nat.zero_le _, Nat.zero_le _⟩ (fun H locs hw => ?_)
  refine lv_if_eq (tgt := 16) hx hb dX12_depth_5 (by decide) (fun hc => ?_) (fun hc => ?_)
  · have hm := it_t hc hm
    refine lv_bipush (v := (-2)) hx hb dX12_depth_16 cb_m2 ?_
    refine lv_goto (tgt := 27) hx hb dX12_depth_18 (by decide) ?_
    cases hm
    exact g_iret C hw dX12_depth_27
  · have hm := it_f hc hm
    refine lv_aload_n hx hb dX12_depth_8 rfl (lv_at hl 0 rfl) ?_
    refine lv_iload_n hx hb dX12_depth_9 rfl (lv_at hl 2 rfl) ?_
    obtain ⟨r10, iv10, ar10, hc10, hm⟩ := ob_some hm
    refine g_calli (As := [.int a2]) (rest := []) C hw (kX12_isNode hc10) mtX12_isNode lkX12_265 oM hl.1 rfl rfl (Nat.le_of_ble_eq_true rfl) ⟨Nat.le_of_ble_eq_true rfl, Nat.le_of_ble_eq_true rfl⟩ dX12_depth_10 ⟨Nat.zero_le _, Nat.zero_le _⟩ (fun H locs hw => ?_)
    refine lv_if_ne (tgt := 21) hx hb dX12_depth_13 (by decide) (fun hc => ?_) (fun hc => ?_)
    · have hm := it_f hc hm
      refine lv_aload_n hx hb dX12_depth_21 rfl (lv_at hl 0 rfl) ?_
      refine lv_iload_n hx hb dX12_depth_22 rfl (lv_at hl 1 rfl) ?_
      refine lv_iload_n hx hb dX12_depth_23 rfl (lv_at hl 2 rfl) ?_
      obtain ⟨r24, iv24, ar24, hc24, hm⟩ := ob_some hm
      refine g_calli (As := [.int a1, .int a2]) (rest := []) C hw (kX12_farOf hc24) mtX12_farOf lkX12_262 oM hl.1 rfl rfl (Nat.le_of_ble_eq_true rfl) ⟨Nat.le_of_ble_eq_true rfl, Nat.le_of_ble_eq_true rfl⟩ dX12_depth_24 ⟨Nat.zero_le _, Nat.zero_le _⟩ (fun H locs hw => ?_)
      cases hm
      exact g_iret C hw dX12_depth_27
    · have hm := it_t hc hm
      refine lv_bipush (v := (-2)) hx hb dX12_depth_16 cb_m2 ?_
      refine lv_goto (tgt := 27) hx hb dX12_depth_18 (by decide) ?_
      cases hm
      exact g_iret C hw dX12_depth_27
def mX12_way_J121 (k56 : Int32 → Int32 → Int32 → Int32 → Int32 → Int32 → mI → mA → Option (Int32 × mI × mA)) (k78 : Int32 → Int32 → Int32 → Int32 → Int32 → Int32 → Int32 → Int32 → mI → mA → Option (Int32 × mI × mA)) (l3 : Int32) (l4 : Int32) (l5 : Int32) (l6 : Int32) (l7 : Int32) (l8 : Int32) (l9 : Int32) (s0 : Int32) (iv : mI) (ar : mA) : Option (Int32 × mI × mA) := if s0 = 0 then k78 l3 l4 l5 l6 (l7 + 1) l8 l9 s0 iv ar else k78 l3 l4 l5 l6 l7 l8 l9 s0 iv ar
set_option maxRecDepth 100000 in
set_option maxHeartbeats 4000000 in
theorem wX12_way_J121 {k56 : Int32 → Int32 → Int32 → Int32 → Int32 → Int32 → mI → mA → Option (Int32 × mI × mA)} {k78 : Int32 → Int32 → Int32 → Int32 → Int32 → Int32 → Int32 → Int32 → mI → mA → Option (Int32 × mI × mA)} (C : mCx p s m args meth c RX12 cX12_way 12 (some .int) D cI cJ A) (hk56 : ∀ (l3 : Int32) (l4 : Int32) (l5 : Int32) (l6 : Int32) (l7 : Int32) (l8 : Int32) (iv : mI) (ar : mA) (rz : Int32) (ivz : mI) (arz : mA), k56 l3 l4 l5 l6 l7 l8 iv ar = some (rz, ivz, arz) → ∀ (H : Heap) (locs : List Loc) (ls : Array Slot), lv_has ls 12 [(0, .ref o), (3, .int l3), (4, .int l4), (5, .int l5), (6, .int l6), (7, .int l7), (8, .int l8)] → inW D A s (wM cI o ad iv ar) H locs → W p l e (rmO 5 123) s m args below meth c H locs 0 0 (MQ below (ctQ D cI cJ (wM cI o ad ivz arz) A rz) args s 0 0 A) (F0 m 56 ls [])) (hk78 : ∀ (l3 : Int32) (l4 : Int32) (l5 : Int32) (l6 : Int32) (l7 : Int32) (l8 : Int32) (l9 : Int32) (l10 : Int32) (iv : mI) (ar : mA) (rz : Int32) (ivz : mI) (arz : mA), k78 l3 l4 l5 l6 l7 l8 l9 l10 iv ar = some (rz, ivz, arz) → ∀ (H : Heap) (locs : List Loc) (ls : Array Slot), lv_has ls 12 [(0, .ref o), (3, .int l3), (4, .int l4), (5, .int l5), (6, .int l6), (7, .int l7), (8, .int l8), (9, .int l9), (10, .int l10)] → inW D A s (wM cI o ad iv ar) H locs → W p l e (rmO 5 123) s m args below meth c H locs 0 0 (MQ below (ctQ D cI cJ (wM cI o ad ivz arz) A rz) args s 0 0 A) (F0 m 78 ls [])) : ∀ (l3 : Int32) (l4 : Int32) (l5 : Int32) (l6 : Int32) (l7 : Int32) (l8 : Int32) (l9 : Int32) (s0 : Int32) (iv : mI) (ar : mA) (rz : Int32) (ivz : mI) (arz : mA), mX12_way_J121 k56 k78 l3 l4 l5 l6 l7 l8 l9 s0 iv ar = some (rz, ivz, arz) → ∀ (H : Heap) (locs : List Loc) (ls : Array Slot), lv_has ls 12 [(0, .ref o), (3, .int l3), (4, .int l4), (5, .int l5), (6, .int l6), (7, .int l7), (8, .int l8), (9, .int l9)] → inW D A s (wM cI o ad iv ar) H locs → W p l e (rmO 5 123) s m args below meth c H locs 0 0 (MQ below (ctQ D cI cJ (wM cI o ad ivz arz) A rz) args s 0 0 A) (F0 m 121 ls [.int s0]) := by
  intro l3 l4 l5 l6 l7 l8 l9 s0 iv ar rz ivz arz hm H locs ls hl hw
  have hx := C.1.1
  have hb := C.1.2.1
  unfold mX12_way_J121 at hm
  refine lv_istore (lv' := [(10, .int s0), (0, .ref o), (3, .int l3), (4, .int l4), (5, .int l5), (6, .int l6), (7, .int l7), (8, .int l8), (9, .int l9)]) hx hb dX12_way_121 hl (by decide) rfl (fun ls hl => ?_)
  refine lv_iload hx hb dX12_way_123 (lv_at hl 0 rfl) ?_
  refine lv_if_eq (tgt := 133) hx hb dX12_way_125 (by decide) (fun hc => ?_) (fun hc => ?_)
  · have hm := it_t hc hm
    refine lv_iload hx hb dX12_way_133 (lv_at hl 6 rfl) ?_
    refine lv_iconst (v := 1) hx hb dX12_way_135 ci_1 ?_
    refine lv_iadd hx hb dX12_way_136 ?_
    refine lv_istore (lv' := [(7, .int (l7 + 1)), (10, .int s0), (0, .ref o), (3, .int l3), (4, .int l4), (5, .int l5), (6, .int l6), (8, .int l8), (9, .int l9)]) hx hb dX12_way_137 hl (by decide) rfl (fun ls hl => ?_)
    refine lv_goto (tgt := 78) hx hb dX12_way_139 (by decide) ?_
    exact hk78 _ _ _ _ _ _ _ _ _ _ _ _ _ hm _ _ _ (lv_sub hl [2, 3, 4, 5, 6, 0, 7, 8, 1] rfl) hw
  · have hm := it_f hc hm
    refine lv_iload hx hb dX12_way_128 (lv_at hl 6 rfl) ?_
    refine lv_goto (tgt := 137) hx hb dX12_way_130 (by decide) ?_
    refine lv_istore (lv' := [(7, .int l7), (10, .int s0), (0, .ref o), (3, .int l3), (4, .int l4), (5, .int l5), (6, .int l6), (8, .int l8), (9, .int l9)]) hx hb dX12_way_137 hl (by decide) rfl (fun ls hl => ?_)
    refine lv_goto (tgt := 78) hx hb dX12_way_139 (by decide) ?_
    exact hk78 _ _ _ _ _ _ _ _ _ _ _ _ _ hm _ _ _ (lv_sub hl [2, 3, 4, 5, 6, 0, 7, 8, 1] rfl) hw
def mX12_way_L78 (k56 : Int32 → Int32 → Int32 → Int32 → Int32 → Int32 → mI → mA → Option (Int32 × mI × mA)) : Nat → Int32 → Int32 → Int32 → Int32 → Int32 → Int32 → Int32 → Int32 → mI → mA → Option (Int32 × mI × mA)
  | 0, _, _, _, _, _, _, _, _, _, _ => none
  | n + 1, l3, l4, l5, l6, l7, l8, l9, l10, iv, ar => if l10 = 0 then if ((l9 >>> (l7 &&& 31)) &&& 1) = 1 then ob (mX12_nextPair l5 l6 l7 iv ar) (fun r105 iv105 ar105 => if r105 < 0 ∨ 160000 ≤ r105.toNatClampNeg then none else if (ar105 7 r105.toNatClampNeg) = (l4 - 1) then mX12_way_J121 k56 (mX12_way_L78 k56 n) l3 l4 l5 l6 l7 l8 l9 1 iv105 ar105 else mX12_way_J121 k56 (mX12_way_L78 k56 n) l3 l4 l5 l6 l7 l8 l9 0 iv105 ar105) else mX12_way_J121 k56 (mX12_way_L78 k56 n) l3 l4 l5 l6 l7 l8 l9 0 iv ar else ob (mX12_nextPair l5 l6 l7 iv ar) (fun r149 iv149 ar149 => k56 l3 (l4 + (-1)) (r149 / 400) (r149 - r149 / 400 * 400) l7 (l8 + 1) iv149 ar149)
set_option maxRecDepth 100000 in
set_option maxHeartbeats 4000000 in
theorem wX12_way_L78 {k56 : Int32 → Int32 → Int32 → Int32 → Int32 → Int32 → mI → mA → Option (Int32 × mI × mA)} (C : mCx p s m args meth c RX12 cX12_way 12 (some .int) D cI cJ A) (hk56 : ∀ (l3 : Int32) (l4 : Int32) (l5 : Int32) (l6 : Int32) (l7 : Int32) (l8 : Int32) (iv : mI) (ar : mA) (rz : Int32) (ivz : mI) (arz : mA), k56 l3 l4 l5 l6 l7 l8 iv ar = some (rz, ivz, arz) → ∀ (H : Heap) (locs : List Loc) (ls : Array Slot), lv_has ls 12 [(0, .ref o), (3, .int l3), (4, .int l4), (5, .int l5), (6, .int l6), (7, .int l7), (8, .int l8)] → inW D A s (wM cI o ad iv ar) H locs → W p l e (rmO 5 123) s m args below meth c H locs 0 0 (MQ below (ctQ D cI cJ (wM cI o ad ivz arz) A rz) args s 0 0 A) (F0 m 56 ls [])) (n : Nat) : ∀ (l3 : Int32) (l4 : Int32) (l5 : Int32) (l6 : Int32) (l7 : Int32) (l8 : Int32) (l9 : Int32) (l10 : Int32) (iv : mI) (ar : mA) (rz : Int32) (ivz : mI) (arz : mA), mX12_way_L78 k56 n l3 l4 l5 l6 l7 l8 l9 l10 iv ar = some (rz, ivz, arz) → ∀ (H : Heap) (locs : List Loc) (ls : Array Slot), lv_has ls 12 [(0, .ref o), (3, .int l3), (4, .int l4), (5, .int l5), (6, .int l6), (7, .int l7), (8, .int l8), (9, .int l9), (10, .int l10)] → inW D A s (wM cI o ad iv ar) H locs → W p l e (rmO 5 123) s m args below meth c H locs 0 0 (MQ below (ctQ D cI cJ (wM cI o ad ivz arz) A rz) args s 0 0 A) (F0 m 78 ls []) := by
  induction n with
  | zero =>
    intro l3 l4 l5 l6 l7 l8 l9 l10 iv ar rz ivz arz hm H locs ls hl hw
    have hm : (none : Option (Int32 × mI × mA)) = some _ := hm
    cases hm
  | succ n ih =>
    intro l3 l4 l5 l6 l7 l8 l9 l10 iv ar rz ivz arz hm H locs ls hl hw
    have hx := C.1.1
    have hb := C.1.2.1
    unfold mX12_way_L78 at hm
    refine lv_iload hx hb dX12_way_78 (lv_at hl 8 rfl) ?_
    refine lv_if_ne (tgt := 142) hx hb dX12_way_80 (by decide) (fun hc => ?_) (fun hc => ?_)
    · have hm := it_f hc hm
      refine lv_aload_n hx hb dX12_way_142 rfl (lv_at hl 0 rfl) ?_
      refine lv_iload hx hb dX12_way_143 (lv_at hl 3 rfl) ?_
      refine lv_iload hx hb dX12_way_145 (lv_at hl 4 rfl) ?_
      refine lv_iload hx hb dX12_way_147 (lv_at hl 5 rfl) ?_
      obtain ⟨r149, iv149, ar149, hc149, hm⟩ := ob_some hm
      refine g_calli (As := [.int l5, .int l6, .int l7]) (rest := []) C hw (kX12_nextPair hc149) mtX12_nextPair lkX12_256 oM hl.1 rfl rfl (Nat.le_of_ble_eq_true rfl) ⟨Nat.le_of_ble_eq_true rfl, Nat.le_of_ble_eq_true rfl⟩ dX12_way_149 ⟨Nat.zero_le _, Nat.zero_le _⟩ (fun H locs hw => ?_)
      refine lv_istore (lv' := [(11, .int r149), (0, .ref o), (3, .int l3), (4, .int l4), (5, .int l5), (6, .int l6), (7, .int l7), (8, .int l8), (9, .int l9), (10, .int l10)]) hx hb dX12_way_152 hl (by decide) rfl (fun ls hl => ?_)
      refine lv_iload hx hb dX12_way_154 (lv_at hl 0 rfl) ?_
      refine lv_sipush (v := 400) hx hb dX12_way_156 cs_400 ?_
      refine lv_idiv hx hb dX12_way_159 (by decide) ?_
      refine lv_istore (lv' := [(5, .int (r149 / 400)), (11, .int r149), (0, .ref o), (3, .int l3), (4, .int l4), (6, .int l6), (7, .int l7), (8, .int l8), (9, .int l9), (10, .int l10)]) hx hb dX12_way_160 hl (by decide) rfl (fun ls hl => ?_)
      refine lv_iload hx hb dX12_way_162 (lv_at hl 1 rfl) ?_
      refine lv_sipush (v := 400) hx hb dX12_way_164 cs_400 ?_
      refine lv_irem hx hb dX12_way_167 (by decide) ?_
      refine lv_istore (lv' := [(6, .int (r149 - r149 / 400 * 400)), (5, .int (r149 / 400)), (11, .int r149), (0, .ref o), (3, .int l3), (4, .int l4), (7, .int l7), (8, .int l8), (9, .int l9), (10, .int l10)]) hx hb dX12_way_168 hl (by decide) rfl (fun ls hl => ?_)
      refine lv_iinc (v := (l4 + (-1))) (lv' := [(4, .int (l4 + (-1))), (6, .int (r149 - r149 / 400 * 400)), (5, .int (r149 / 400)), (11, .int r149), (0, .ref o), (3, .int l3), (7, .int l7), (8, .int l8), (9, .int l9), (10, .int l10)]) hx hb dX12_way_170 hl (k := 5) rfl (ii_ ci_m1) (by decide) rfl (fun ls hl => ?_)
      refine lv_iinc (v := (l8 + 1)) (lv' := [(8, .int (l8 + 1)), (4, .int (l4 + (-1))), (6, .int (r149 - r149 / 400 * 400)), (5, .int (r149 / 400)), (11, .int r149), (0, .ref o), (3, .int l3), (7, .int l7), (9, .int l9), (10, .int l10)]) hx hb dX12_way_173 hl (k := 7) rfl (ii_ ci_1) (by decide) rfl (fun ls hl => ?_)
      refine lv_goto (tgt := 56) hx hb dX12_way_176 (by decide) ?_
      exact hk56 _ _ _ _ _ _ _ _ _ _ _ hm _ _ _ (lv_sub hl [5, 6, 1, 3, 2, 7, 0] rfl) hw
    · have hm := it_t hc hm
      refine lv_iload hx hb dX12_way_83 (lv_at hl 7 rfl) ?_
      refine lv_iload hx hb dX12_way_85 (lv_at hl 5 rfl) ?_
      refine lv_ishr hx hb dX12_way_87 ?_
      refine lv_iconst (v := 1) hx hb dX12_way_88 ci_1 ?_
      refine lv_iand hx hb dX12_way_89 ?_
      refine lv_iconst (v := 1) hx hb dX12_way_90 ci_1 ?_
      refine lv_icmp_ne (tgt := 120) hx hb dX12_way_91 (by decide) (fun hc => ?_) (fun hc => ?_)
      · have hm := it_f hc hm
        refine lv_iconst (v := 0) hx hb dX12_way_120 ci_0 ?_
        exact wX12_way_J121 C hk56 ih _ _ _ _ _ _ _ _ _ _ _ _ _ hm _ _ _ (lv_sub hl [0, 1, 2, 3, 4, 5, 6, 7] rfl) hw
      · have hm := it_t hc hm
        refine lv_aload_n hx hb dX12_way_94 rfl (lv_at hl 0 rfl) ?_
        refine g_get C hw gM_7 dX12_way_95 ?_
        refine lv_aload_n hx hb dX12_way_98 rfl (lv_at hl 0 rfl) ?_
        refine lv_iload hx hb dX12_way_99 (lv_at hl 3 rfl) ?_
        refine lv_iload hx hb dX12_way_101 (lv_at hl 4 rfl) ?_
        refine lv_iload hx hb dX12_way_103 (lv_at hl 5 rfl) ?_
        obtain ⟨r105, iv105, ar105, hc105, hm⟩ := ob_some hm
        refine g_calli (As := [.int l5, .int l6, .int l7]) (rest := [.ref (ad 7)]) C hw (kX12_nextPair hc105) mtX12_nextPair lkX12_256 oM hl.1 rfl rfl (Nat.le_of_ble_eq_true rfl) ⟨Nat.le_of_ble_eq_true rfl, Nat.le_of_ble_eq_true rfl⟩ dX12_way_105 ⟨Nat.zero_le _, Nat.zero_le _⟩ (fun H locs hw => ?_)
        obtain ⟨hi, hm⟩ := it_a hm
        refine g_ald C hw aM_7 hi dX12_way_108 ?_
        refine lv_iload hx hb dX12_way_109 (lv_at hl 2 rfl) ?_
        refine lv_iconst (v := 1) hx hb dX12_way_111 ci_1 ?_
        refine lv_isub hx hb dX12_way_112 ?_
        refine lv_icmp_ne (tgt := 120) hx hb dX12_way_113 (by decide) (fun hc => ?_) (fun hc => ?_)
        · have hm := it_f hc hm
          refine lv_iconst (v := 0) hx hb dX12_way_120 ci_0 ?_
          exact wX12_way_J121 C hk56 ih _ _ _ _ _ _ _ _ _ _ _ _ _ hm _ _ _ (lv_sub hl [0, 1, 2, 3, 4, 5, 6, 7] rfl) hw
        · have hm := it_t hc hm
          refine lv_iconst (v := 1) hx hb dX12_way_116 ci_1 ?_
          refine lv_goto (tgt := 121) hx hb dX12_way_117 (by decide) ?_
          exact wX12_way_J121 C hk56 ih _ _ _ _ _ _ _ _ _ _ _ _ _ hm _ _ _ (lv_sub hl [0, 1, 2, 3, 4, 5, 6, 7] rfl) hw
def mX12_way_L56 : Nat → Int32 → Int32 → Int32 → Int32 → Int32 → Int32 → mI → mA → Option (Int32 × mI × mA)
  | 0, _, _, _, _, _, _, _, _ => none
  | n + 1, l3, l4, l5, l6, l7, l8, iv, ar => if l3 < l8 then some (l7, iv, ar) else ob (mX12_wanted l5 l6 iv ar) (fun r70 iv70 ar70 => mX12_way_L78 (mX12_way_L56 n) bigF l3 l4 l5 l6 0 l8 r70 0 iv70 ar70)
set_option maxRecDepth 100000 in
set_option maxHeartbeats 4000000 in
theorem wX12_way_L56 (C : mCx p s m args meth c RX12 cX12_way 12 (some .int) D cI cJ A) (n : Nat) : ∀ (l3 : Int32) (l4 : Int32) (l5 : Int32) (l6 : Int32) (l7 : Int32) (l8 : Int32) (iv : mI) (ar : mA) (rz : Int32) (ivz : mI) (arz : mA), mX12_way_L56 n l3 l4 l5 l6 l7 l8 iv ar = some (rz, ivz, arz) → ∀ (H : Heap) (locs : List Loc) (ls : Array Slot), lv_has ls 12 [(0, .ref o), (3, .int l3), (4, .int l4), (5, .int l5), (6, .int l6), (7, .int l7), (8, .int l8)] → inW D A s (wM cI o ad iv ar) H locs → W p l e (rmO 5 123) s m args below meth c H locs 0 0 (MQ below (ctQ D cI cJ (wM cI o ad ivz arz) A rz) args s 0 0 A) (F0 m 56 ls []) := by
  induction n with
  | zero =>
    intro l3 l4 l5 l6 l7 l8 iv ar rz ivz arz hm H locs ls hl hw
    have hm : (none : Option (Int32 × mI × mA)) = some _ := hm
    cases hm
  | succ n ih =>
    intro l3 l4 l5 l6 l7 l8 iv ar rz ivz arz hm H locs ls hl hw
    have hx := C.1.1
    have hb := C.1.2.1
    unfold mX12_way_L56 at hm
    refine lv_iload hx hb dX12_way_56 (lv_at hl 6 rfl) ?_
    refine lv_iload_n hx hb dX12_way_58 rfl (lv_at hl 1 rfl) ?_
    refine lv_icmp_gt (tgt := 179) hx hb dX12_way_59 (by decide) (fun hc => ?_) (fun hc => ?_)
    · have hm := it_t hc hm
      refine lv_iload hx hb dX12_way_179 (lv_at hl 5 rfl) ?_
      cases hm
      exact g_iret C hw dX12_way_181
    · have hm := it_f hc hm
      refine lv_iconst (v := 0) hx hb dX12_way_62 ci_0 ?_
      refine lv_istore (lv' := [(7, .int 0), (0, .ref o), (3, .int l3), (4, .int l4), (5, .int l5), (6, .int l6), (8, .int l8)]) hx hb dX12_way_63 hl (by decide) rfl (fun ls hl => ?_)
      refine lv_aload_n hx hb dX12_way_65 rfl (lv_at hl 1 rfl) ?_
      refine lv_iload hx hb dX12_way_66 (lv_at hl 4 rfl) ?_
      refine lv_iload hx hb dX12_way_68 (lv_at hl 5 rfl) ?_
      obtain ⟨r70, iv70, ar70, hc70, hm⟩ := ob_some hm
      refine g_calli (As := [.int l5, .int l6]) (rest := []) C hw (kX12_wanted hc70) mtX12_wanted lkX12_253 oM hl.1 rfl rfl (Nat.le_of_ble_eq_true rfl) ⟨Nat.le_of_ble_eq_true rfl, Nat.le_of_ble_eq_true rfl⟩ dX12_way_70 ⟨Nat.zero_le _, Nat.zero_le _⟩ (fun H locs hw => ?_)
      refine lv_istore (lv' := [(9, .int r70), (7, .int 0), (0, .ref o), (3, .int l3), (4, .int l4), (5, .int l5), (6, .int l6), (8, .int l8)]) hx hb dX12_way_73 hl (by decide) rfl (fun ls hl => ?_)
      refine lv_iconst (v := 0) hx hb dX12_way_75 ci_0 ?_
      refine lv_istore (lv' := [(10, .int 0), (9, .int r70), (7, .int 0), (0, .ref o), (3, .int l3), (4, .int l4), (5, .int l5), (6, .int l6), (8, .int l8)]) hx hb dX12_way_76 hl (by decide) rfl (fun ls hl => ?_)
      exact wX12_way_L78 C ih bigF _ _ _ _ _ _ _ _ _ _ _ _ _ hm _ _ _ (lv_sub hl [3, 4, 5, 6, 7, 2, 8, 1, 0] rfl) hw
def mX12_way (a1 : Int32) (a2 : Int32) (a3 : Int32) (iv : mI) (ar : mA) : Option (Int32 × mI × mA) := ob (mX12_isNode a1 iv ar) (fun r2 iv2 ar2 => if r2 = 0 then some ((-2), iv2, ar2) else ob (mX12_isNode a2 iv2 ar2) (fun r10 iv10 ar10 => if r10 = 0 then some ((-2), iv10, ar10) else ob (mX12_farOf a1 a2 iv10 ar10) (fun r22 iv22 ar22 => if r22 < 0 then some ((-1), iv22, ar22) else if a3 < 0 then some ((-1), iv22, ar22) else if a3 < r22 then mX12_way_L56 bigF a3 r22 a1 a2 (-1) 0 iv22 ar22 else some ((-1), iv22, ar22))))
set_option maxRecDepth 100000 in
set_option maxHeartbeats 4000000 in
theorem kX12_way {a1 a2 a3 : Int32} {iv ivz : mI} {ar arz : mA} {rz : Int32} (hm : mX12_way a1 a2 a3 iv ar = some (rz, ivz, arz)) : Ct l D cI cJ yX12_way cX12_way 12 (some .int) 5 123 [.ref o, .int a1, .int a2, .int a3] (wM cI o ad iv ar) (wM cI o ad ivz arz) rz := by
  intro sz
  refine ct_of (by decide) (Nat.le_of_ble_eq_true rfl) ?_
  intro p e s m args below meth c C hw ls hl
  have hl : lv_has ls 12 [(0, .ref o), (1, .int a1), (2, .int a2), (3, .int a3)] := hl
  have hx := C.1.1
  have hb := C.1.2.1
  unfold mX12_way at hm
  refine lv_aload_n hx hb dX12_way_0 rfl (lv_at hl 0 rfl) ?_
  refine lv_iload_n hx hb dX12_way_1 rfl (lv_at hl 1 rfl) ?_
  obtain ⟨r2, iv2, ar2, hc2, hm⟩ := ob_some hm
  refine g_calli (As := [.int a1]) (rest := []) C hw (kX12_isNode hc2) mtX12_isNode lkX12_265 oM hl.1 rfl rfl (Nat.le_of_ble_eq_true rfl) ⟨Nat.le_of_ble_eq_true rfl, Nat.le_of_ble_eq_true rfl⟩ dX12_way_2 ⟨Nat.zero_le _, Nat.zero_le _⟩ (fun H locs hw => ?_)
  refine lv_if_eq (tgt := 16) hx hb dX12_way_5 (by decide) (fun hc => ?_) (fun hc => ?_)
  · have hm := it_t hc hm
    refine lv_bipush (v := (-2)) hx hb dX12_way_16 cb_m2 ?_
    cases hm
    exact g_iret C hw dX12_way_18
  · have hm := it_f hc hm
    refine lv_aload_n hx hb dX12_way_8 rfl (lv_at hl 0 rfl) ?_
    refine lv_iload_n hx hb dX12_way_9 rfl (lv_at hl 2 rfl) ?_
    obtain ⟨r10, iv10, ar10, hc10, hm⟩ := ob_some hm
    refine g_calli (As := [.int a2]) (rest := []) C hw (kX12_isNode hc10) mtX12_isNode lkX12_265 oM hl.1 rfl rfl (Nat.le_of_ble_eq_true rfl) ⟨Nat.le_of_ble_eq_true rfl, Nat.le_of_ble_eq_true rfl⟩ dX12_way_10 ⟨Nat.zero_le _, Nat.zero_le _⟩ (fun H locs hw => ?_)
    refine lv_if_ne (tgt := 19) hx hb dX12_way_13 (by decide) (fun hc => ?_) (fun hc => ?_)
    · have hm := it_f hc hm
      refine lv_aload_n hx hb dX12_way_19 rfl (lv_at hl 0 rfl) ?_
      refine lv_iload_n hx hb dX12_way_20 rfl (lv_at hl 1 rfl) ?_
      refine lv_iload_n hx hb dX12_way_21 rfl (lv_at hl 2 rfl) ?_
      obtain ⟨r22, iv22, ar22, hc22, hm⟩ := ob_some hm
      refine g_calli (As := [.int a1, .int a2]) (rest := []) C hw (kX12_farOf hc22) mtX12_farOf lkX12_262 oM hl.1 rfl rfl (Nat.le_of_ble_eq_true rfl) ⟨Nat.le_of_ble_eq_true rfl, Nat.le_of_ble_eq_true rfl⟩ dX12_way_22 ⟨Nat.zero_le _, Nat.zero_le _⟩ (fun H locs hw => ?_)
      refine lv_istore (lv' := [(4, .int r22), (0, .ref o), (1, .int a1), (2, .int a2), (3, .int a3)]) hx hb dX12_way_25 hl (by decide) rfl (fun ls hl => ?_)
      refine lv_iload hx hb dX12_way_27 (lv_at hl 0 rfl) ?_
      refine lv_if_lt (tgt := 42) hx hb dX12_way_29 (by decide) (fun hc => ?_) (fun hc => ?_)
      · have hm := it_t hc hm
        refine lv_iconst (v := (-1)) hx hb dX12_way_42 ci_m1 ?_
        cases hm
        exact g_iret C hw dX12_way_43
      · have hm := it_f hc hm
        refine lv_iload_n hx hb dX12_way_32 rfl (lv_at hl 4 rfl) ?_
        refine lv_if_lt (tgt := 42) hx hb dX12_way_33 (by decide) (fun hc => ?_) (fun hc => ?_)
        · have hm := it_t hc hm
          refine lv_iconst (v := (-1)) hx hb dX12_way_42 ci_m1 ?_
          cases hm
          exact g_iret C hw dX12_way_43
        · have hm := it_f hc hm
          refine lv_iload_n hx hb dX12_way_36 rfl (lv_at hl 4 rfl) ?_
          refine lv_iload hx hb dX12_way_37 (lv_at hl 0 rfl) ?_
          refine lv_icmp_lt (tgt := 44) hx hb dX12_way_39 (by decide) (fun hc => ?_) (fun hc => ?_)
          · have hm := it_t hc hm
            refine lv_iload_n hx hb dX12_way_44 rfl (lv_at hl 2 rfl) ?_
            refine lv_istore (lv' := [(5, .int a1), (4, .int r22), (0, .ref o), (1, .int a1), (2, .int a2), (3, .int a3)]) hx hb dX12_way_45 hl (by decide) rfl (fun ls hl => ?_)
            refine lv_iload_n hx hb dX12_way_47 rfl (lv_at hl 4 rfl) ?_
            refine lv_istore (lv' := [(6, .int a2), (5, .int a1), (4, .int r22), (0, .ref o), (1, .int a1), (2, .int a2), (3, .int a3)]) hx hb dX12_way_48 hl (by decide) rfl (fun ls hl => ?_)
            refine lv_iconst (v := (-1)) hx hb dX12_way_50 ci_m1 ?_
            refine lv_istore (lv' := [(7, .int (-1)), (6, .int a2), (5, .int a1), (4, .int r22), (0, .ref o), (1, .int a1), (2, .int a2), (3, .int a3)]) hx hb dX12_way_51 hl (by decide) rfl (fun ls hl => ?_)
            refine lv_iconst (v := 0) hx hb dX12_way_53 ci_0 ?_
            refine lv_istore (lv' := [(8, .int 0), (7, .int (-1)), (6, .int a2), (5, .int a1), (4, .int r22), (0, .ref o), (1, .int a1), (2, .int a2), (3, .int a3)]) hx hb dX12_way_54 hl (by decide) rfl (fun ls hl => ?_)
            exact wX12_way_L56 C bigF _ _ _ _ _ _ _ _ _ _ _ hm _ _ _ (lv_sub hl [5, 8, 4, 3, 2, 1, 0] rfl) hw
          · have hm := it_f hc hm
            refine lv_iconst (v := (-1)) hx hb dX12_way_42 ci_m1 ?_
            cases hm
            exact g_iret C hw dX12_way_43
    · have hm := it_t hc hm
      refine lv_bipush (v := (-2)) hx hb dX12_way_16 cb_m2 ?_
      cases hm
      exact g_iret C hw dX12_way_18
def mX12_ask (a1 : Int32) (a2 : Int32) (a3 : Int32) (a4 : Int32) (a5 : Int32) (iv : mI) (ar : mA) : Option (Int32 × mI × mA) := if (iv 17) < 0 ∨ 4000 ≤ (iv 17).toNatClampNeg then none else if (iv 17) < 0 ∨ 4000 ≤ (iv 17).toNatClampNeg then none else if (iv 17) < 0 ∨ 4000 ≤ (iv 17).toNatClampNeg then none else if (iv 17) < 0 ∨ 4000 ≤ (iv 17).toNatClampNeg then none else if (iv 17) < 0 ∨ 4000 ≤ (iv 17).toNatClampNeg then none else some (0, va_up iv 17 ((iv 17) + 1), au (au (au (au (au ar 12 (iv 17).toNatClampNeg a1) 13 (iv 17).toNatClampNeg a2) 14 (iv 17).toNatClampNeg a3) 15 (iv 17).toNatClampNeg a4) 16 (iv 17).toNatClampNeg a5)
set_option maxRecDepth 100000 in
set_option maxHeartbeats 4000000 in
theorem kX12_ask {a1 a2 a3 a4 a5 : Int32} {iv ivz : mI} {ar arz : mA} {rz : Int32} (hm : mX12_ask a1 a2 a3 a4 a5 iv ar = some (rz, ivz, arz)) : CtV l D cI cJ yX12_ask cX12_ask 6 0 0 [.ref o, .int a1, .int a2, .int a3, .int a4, .int a5] (wM cI o ad iv ar) (wM cI o ad ivz arz) := by
  intro sz
  refine ct_of (by decide) (Nat.le_of_ble_eq_true rfl) ?_
  intro p e s m args below meth c C hw ls hl
  have hl : lv_has ls 6 [(0, .ref o), (1, .int a1), (2, .int a2), (3, .int a3), (4, .int a4), (5, .int a5)] := hl
  have hx := C.1.1
  have hb := C.1.2.1
  unfold mX12_ask at hm
  refine lv_aload_n hx hb dX12_ask_0 rfl (lv_at hl 0 rfl) ?_
  refine g_get C hw gM_12 dX12_ask_1 ?_
  refine lv_aload_n hx hb dX12_ask_4 rfl (lv_at hl 0 rfl) ?_
  refine g_get C hw gM_17 dX12_ask_5 ?_
  refine lv_iload_n hx hb dX12_ask_8 rfl (lv_at hl 1 rfl) ?_
  obtain ⟨hi, hm⟩ := it_a hm
  refine g_ast C hw sM_12 hi dX12_ask_9 (fun H locs hw => ?_)
  refine lv_aload_n hx hb dX12_ask_10 rfl (lv_at hl 0 rfl) ?_
  refine g_get C hw gM_13 dX12_ask_11 ?_
  refine lv_aload_n hx hb dX12_ask_14 rfl (lv_at hl 0 rfl) ?_
  refine g_get C hw gM_17 dX12_ask_15 ?_
  refine lv_iload_n hx hb dX12_ask_18 rfl (lv_at hl 2 rfl) ?_
  obtain ⟨hi, hm⟩ := it_a hm
  refine g_ast C hw sM_13 hi dX12_ask_19 (fun H locs hw => ?_)
  refine lv_aload_n hx hb dX12_ask_20 rfl (lv_at hl 0 rfl) ?_
  refine g_get C hw gM_14 dX12_ask_21 ?_
  refine lv_aload_n hx hb dX12_ask_24 rfl (lv_at hl 0 rfl) ?_
  refine g_get C hw gM_17 dX12_ask_25 ?_
  refine lv_iload_n hx hb dX12_ask_28 rfl (lv_at hl 3 rfl) ?_
  obtain ⟨hi, hm⟩ := it_a hm
  refine g_ast C hw sM_14 hi dX12_ask_29 (fun H locs hw => ?_)
  refine lv_aload_n hx hb dX12_ask_30 rfl (lv_at hl 0 rfl) ?_
  refine g_get C hw gM_15 dX12_ask_31 ?_
  refine lv_aload_n hx hb dX12_ask_34 rfl (lv_at hl 0 rfl) ?_
  refine g_get C hw gM_17 dX12_ask_35 ?_
  refine lv_iload hx hb dX12_ask_38 (lv_at hl 4 rfl) ?_
  obtain ⟨hi, hm⟩ := it_a hm
  refine g_ast C hw sM_15 hi dX12_ask_40 (fun H locs hw => ?_)
  refine lv_aload_n hx hb dX12_ask_41 rfl (lv_at hl 0 rfl) ?_
  refine g_get C hw gM_16 dX12_ask_42 ?_
  refine lv_aload_n hx hb dX12_ask_45 rfl (lv_at hl 0 rfl) ?_
  refine g_get C hw gM_17 dX12_ask_46 ?_
  refine lv_iload hx hb dX12_ask_49 (lv_at hl 5 rfl) ?_
  obtain ⟨hi, hm⟩ := it_a hm
  refine g_ast C hw sM_16 hi dX12_ask_51 (fun H locs hw => ?_)
  refine lv_aload_n hx hb dX12_ask_52 rfl (lv_at hl 0 rfl) ?_
  refine lv_dup hx hb dX12_ask_53 rfl ?_
  refine g_get C hw gM_17 dX12_ask_54 ?_
  refine lv_iconst (v := 1) hx hb dX12_ask_57 ci_1 ?_
  refine lv_iadd hx hb dX12_ask_58 ?_
  refine g_put C hw pM_17 dX12_ask_59 (fun H locs hw => ?_)
  cases hm
  exact g_vret C hw dX12_ask_62
def mX12_simple_J20 (l2 : Int32) (l3 : Int32) (l4 : Int32) (s0 : Int32) (iv : mI) (ar : mA) : Option (Int32 × mI × mA) := if l2 = l3 then some (l2, iv, ar) else if l2 < 0 ∨ 400 ≤ l2.toNatClampNeg then none else if (ar 4 l2.toNatClampNeg) = l4 then some (l3, iv, ar) else if l3 < 0 ∨ 400 ≤ l3.toNatClampNeg then none else if (ar 4 l3.toNatClampNeg) = l4 then some (l2, iv, ar) else if l2 < 0 ∨ 400 ≤ l2.toNatClampNeg then none else if (ar 4 l2.toNatClampNeg) = s0 then some (l2, iv, ar) else if l3 < 0 ∨ 400 ≤ l3.toNatClampNeg then none else if (ar 4 l3.toNatClampNeg) = s0 then some (l3, iv, ar) else if l2 < 0 ∨ 400 ≤ l2.toNatClampNeg then none else if l3 < 0 ∨ 400 ≤ l3.toNatClampNeg then none else if (ar 4 l2.toNatClampNeg) = (ar 4 l3.toNatClampNeg) then if l2 < 0 ∨ 400 ≤ l2.toNatClampNeg then none else if (ar 4 l2.toNatClampNeg) = 2 then some (l2, iv, ar) else if l2 < 0 ∨ 400 ≤ l2.toNatClampNeg then none else if (ar 4 l2.toNatClampNeg) = 3 then some (l2, iv, ar) else some ((-1), iv, ar) else some ((-1), iv, ar)
set_option maxRecDepth 100000 in
set_option maxHeartbeats 4000000 in
theorem wX12_simple_J20 (C : mCx p s m args meth c RX12 cX12_simple 6 (some .int) D cI cJ A) : ∀ (l2 : Int32) (l3 : Int32) (l4 : Int32) (s0 : Int32) (iv : mI) (ar : mA) (rz : Int32) (ivz : mI) (arz : mA), mX12_simple_J20 l2 l3 l4 s0 iv ar = some (rz, ivz, arz) → ∀ (H : Heap) (locs : List Loc) (ls : Array Slot), lv_has ls 6 [(0, .ref o), (2, .int l2), (3, .int l3), (4, .int l4)] → inW D A s (wM cI o ad iv ar) H locs → W p l e (rmO 0 0) s m args below meth c H locs 0 0 (MQ below (ctQ D cI cJ (wM cI o ad ivz arz) A rz) args s 0 0 A) (F0 m 20 ls [.int s0]) := by
  intro l2 l3 l4 s0 iv ar rz ivz arz hm H locs ls hl hw
  have hx := C.1.1
  have hb := C.1.2.1
  unfold mX12_simple_J20 at hm
  refine lv_istore (lv' := [(5, .int s0), (0, .ref o), (2, .int l2), (3, .int l3), (4, .int l4)]) hx hb dX12_simple_20 hl (by decide) rfl (fun ls hl => ?_)
  refine lv_iload_n hx hb dX12_simple_22 rfl (lv_at hl 2 rfl) ?_
  refine lv_iload_n hx hb dX12_simple_23 rfl (lv_at hl 3 rfl) ?_
  refine lv_icmp_ne (tgt := 29) hx hb dX12_simple_24 (by decide) (fun hc => ?_) (fun hc => ?_)
  · have hm := it_f hc hm
    refine lv_aload_n hx hb dX12_simple_29 rfl (lv_at hl 1 rfl) ?_
    refine g_get C hw gM_4 dX12_simple_30 ?_
    refine lv_iload_n hx hb dX12_simple_33 rfl (lv_at hl 2 rfl) ?_
    obtain ⟨hi, hm⟩ := it_a hm
    refine g_ald C hw aM_4 hi dX12_simple_34 ?_
    refine lv_iload hx hb dX12_simple_35 (lv_at hl 4 rfl) ?_
    refine lv_icmp_ne (tgt := 42) hx hb dX12_simple_37 (by decide) (fun hc => ?_) (fun hc => ?_)
    · have hm := it_f hc hm
      refine lv_aload_n hx hb dX12_simple_42 rfl (lv_at hl 1 rfl) ?_
      refine g_get C hw gM_4 dX12_simple_43 ?_
      refine lv_iload_n hx hb dX12_simple_46 rfl (lv_at hl 3 rfl) ?_
      obtain ⟨hi, hm⟩ := it_a hm
      refine g_ald C hw aM_4 hi dX12_simple_47 ?_
      refine lv_iload hx hb dX12_simple_48 (lv_at hl 4 rfl) ?_
      refine lv_icmp_ne (tgt := 55) hx hb dX12_simple_50 (by decide) (fun hc => ?_) (fun hc => ?_)
      · have hm := it_f hc hm
        refine lv_aload_n hx hb dX12_simple_55 rfl (lv_at hl 1 rfl) ?_
        refine g_get C hw gM_4 dX12_simple_56 ?_
        refine lv_iload_n hx hb dX12_simple_59 rfl (lv_at hl 2 rfl) ?_
        obtain ⟨hi, hm⟩ := it_a hm
        refine g_ald C hw aM_4 hi dX12_simple_60 ?_
        refine lv_iload hx hb dX12_simple_61 (lv_at hl 0 rfl) ?_
        refine lv_icmp_ne (tgt := 68) hx hb dX12_simple_63 (by decide) (fun hc => ?_) (fun hc => ?_)
        · have hm := it_f hc hm
          refine lv_aload_n hx hb dX12_simple_68 rfl (lv_at hl 1 rfl) ?_
          refine g_get C hw gM_4 dX12_simple_69 ?_
          refine lv_iload_n hx hb dX12_simple_72 rfl (lv_at hl 3 rfl) ?_
          obtain ⟨hi, hm⟩ := it_a hm
          refine g_ald C hw aM_4 hi dX12_simple_73 ?_
          refine lv_iload hx hb dX12_simple_74 (lv_at hl 0 rfl) ?_
          refine lv_icmp_ne (tgt := 81) hx hb dX12_simple_76 (by decide) (fun hc => ?_) (fun hc => ?_)
          · have hm := it_f hc hm
            refine lv_aload_n hx hb dX12_simple_81 rfl (lv_at hl 1 rfl) ?_
            refine g_get C hw gM_4 dX12_simple_82 ?_
            refine lv_iload_n hx hb dX12_simple_85 rfl (lv_at hl 2 rfl) ?_
            obtain ⟨hi, hm⟩ := it_a hm
            refine g_ald C hw aM_4 hi dX12_simple_86 ?_
            refine lv_aload_n hx hb dX12_simple_87 rfl (lv_at hl 1 rfl) ?_
            refine g_get C hw gM_4 dX12_simple_88 ?_
            refine lv_iload_n hx hb dX12_simple_91 rfl (lv_at hl 3 rfl) ?_
            obtain ⟨hi, hm⟩ := it_a hm
            refine g_ald C hw aM_4 hi dX12_simple_92 ?_
            refine lv_icmp_ne (tgt := 120) hx hb dX12_simple_93 (by decide) (fun hc => ?_) (fun hc => ?_)
            · have hm := it_f hc hm
              refine lv_iconst (v := (-1)) hx hb dX12_simple_120 ci_m1 ?_
              cases hm
              exact g_iret C hw dX12_simple_121
            · have hm := it_t hc hm
              refine lv_aload_n hx hb dX12_simple_96 rfl (lv_at hl 1 rfl) ?_
              refine g_get C hw gM_4 dX12_simple_97 ?_
              refine lv_iload_n hx hb dX12_simple_100 rfl (lv_at hl 2 rfl) ?_
              obtain ⟨hi, hm⟩ := it_a hm
              refine g_ald C hw aM_4 hi dX12_simple_101 ?_
              refine lv_iconst (v := 2) hx hb dX12_simple_102 ci_2 ?_
              refine lv_icmp_eq (tgt := 116) hx hb dX12_simple_103 (by decide) (fun hc => ?_) (fun hc => ?_)
              · have hm := it_t hc hm
                refine lv_iload_n hx hb dX12_simple_116 rfl (lv_at hl 2 rfl) ?_
                refine lv_goto (tgt := 121) hx hb dX12_simple_117 (by decide) ?_
                cases hm
                exact g_iret C hw dX12_simple_121
              · have hm := it_f hc hm
                refine lv_aload_n hx hb dX12_simple_106 rfl (lv_at hl 1 rfl) ?_
                refine g_get C hw gM_4 dX12_simple_107 ?_
                refine lv_iload_n hx hb dX12_simple_110 rfl (lv_at hl 2 rfl) ?_
                obtain ⟨hi, hm⟩ := it_a hm
                refine g_ald C hw aM_4 hi dX12_simple_111 ?_
                refine lv_iconst (v := 3) hx hb dX12_simple_112 ci_3 ?_
                refine lv_icmp_ne (tgt := 120) hx hb dX12_simple_113 (by decide) (fun hc => ?_) (fun hc => ?_)
                · have hm := it_f hc hm
                  refine lv_iconst (v := (-1)) hx hb dX12_simple_120 ci_m1 ?_
                  cases hm
                  exact g_iret C hw dX12_simple_121
                · have hm := it_t hc hm
                  refine lv_iload_n hx hb dX12_simple_116 rfl (lv_at hl 2 rfl) ?_
                  refine lv_goto (tgt := 121) hx hb dX12_simple_117 (by decide) ?_
                  cases hm
                  exact g_iret C hw dX12_simple_121
          · have hm := it_t hc hm
            refine lv_iload_n hx hb dX12_simple_79 rfl (lv_at hl 3 rfl) ?_
            cases hm
            exact g_iret C hw dX12_simple_80
        · have hm := it_t hc hm
          refine lv_iload_n hx hb dX12_simple_66 rfl (lv_at hl 2 rfl) ?_
          cases hm
          exact g_iret C hw dX12_simple_67
      · have hm := it_t hc hm
        refine lv_iload_n hx hb dX12_simple_53 rfl (lv_at hl 2 rfl) ?_
        cases hm
        exact g_iret C hw dX12_simple_54
    · have hm := it_t hc hm
      refine lv_iload_n hx hb dX12_simple_40 rfl (lv_at hl 3 rfl) ?_
      cases hm
      exact g_iret C hw dX12_simple_41
  · have hm := it_t hc hm
    refine lv_iload_n hx hb dX12_simple_27 rfl (lv_at hl 2 rfl) ?_
    cases hm
    exact g_iret C hw dX12_simple_28
def mX12_simple_J9 (l1 : Int32) (l2 : Int32) (l3 : Int32) (s0 : Int32) (iv : mI) (ar : mA) : Option (Int32 × mI × mA) := if l1 = 0 then mX12_simple_J20 l2 l3 s0 0 iv ar else mX12_simple_J20 l2 l3 s0 1 iv ar
set_option maxRecDepth 100000 in
set_option maxHeartbeats 4000000 in
theorem wX12_simple_J9 (C : mCx p s m args meth c RX12 cX12_simple 6 (some .int) D cI cJ A) : ∀ (l1 : Int32) (l2 : Int32) (l3 : Int32) (s0 : Int32) (iv : mI) (ar : mA) (rz : Int32) (ivz : mI) (arz : mA), mX12_simple_J9 l1 l2 l3 s0 iv ar = some (rz, ivz, arz) → ∀ (H : Heap) (locs : List Loc) (ls : Array Slot), lv_has ls 6 [(0, .ref o), (1, .int l1), (2, .int l2), (3, .int l3)] → inW D A s (wM cI o ad iv ar) H locs → W p l e (rmO 0 0) s m args below meth c H locs 0 0 (MQ below (ctQ D cI cJ (wM cI o ad ivz arz) A rz) args s 0 0 A) (F0 m 9 ls [.int s0]) := by
  intro l1 l2 l3 s0 iv ar rz ivz arz hm H locs ls hl hw
  have hx := C.1.1
  have hb := C.1.2.1
  unfold mX12_simple_J9 at hm
  refine lv_istore (lv' := [(4, .int s0), (0, .ref o), (1, .int l1), (2, .int l2), (3, .int l3)]) hx hb dX12_simple_9 hl (by decide) rfl (fun ls hl => ?_)
  refine lv_iload_n hx hb dX12_simple_11 rfl (lv_at hl 2 rfl) ?_
  refine lv_if_ne (tgt := 19) hx hb dX12_simple_12 (by decide) (fun hc => ?_) (fun hc => ?_)
  · have hm := it_f hc hm
    refine lv_iconst (v := 1) hx hb dX12_simple_19 ci_1 ?_
    exact wX12_simple_J20 C _ _ _ _ _ _ _ _ _ hm _ _ _ (lv_sub hl [1, 3, 4, 0] rfl) hw
  · have hm := it_t hc hm
    refine lv_iconst (v := 0) hx hb dX12_simple_15 ci_0 ?_
    refine lv_goto (tgt := 20) hx hb dX12_simple_16 (by decide) ?_
    exact wX12_simple_J20 C _ _ _ _ _ _ _ _ _ hm _ _ _ (lv_sub hl [1, 3, 4, 0] rfl) hw
def mX12_simple (a1 : Int32) (a2 : Int32) (a3 : Int32) (iv : mI) (ar : mA) : Option (Int32 × mI × mA) := if a1 = 0 then mX12_simple_J9 a1 a2 a3 1 iv ar else mX12_simple_J9 a1 a2 a3 0 iv ar
set_option maxRecDepth 100000 in
set_option maxHeartbeats 4000000 in
theorem kX12_simple {a1 a2 a3 : Int32} {iv ivz : mI} {ar arz : mA} {rz : Int32} (hm : mX12_simple a1 a2 a3 iv ar = some (rz, ivz, arz)) : Ct l D cI cJ yX12_simple cX12_simple 6 (some .int) 0 0 [.ref o, .int a1, .int a2, .int a3] (wM cI o ad iv ar) (wM cI o ad ivz arz) rz := by
  intro sz
  refine ct_of (by decide) (Nat.le_of_ble_eq_true rfl) ?_
  intro p e s m args below meth c C hw ls hl
  have hl : lv_has ls 6 [(0, .ref o), (1, .int a1), (2, .int a2), (3, .int a3)] := hl
  have hx := C.1.1
  have hb := C.1.2.1
  unfold mX12_simple at hm
  refine lv_iload_n hx hb dX12_simple_0 rfl (lv_at hl 1 rfl) ?_
  refine lv_if_ne (tgt := 8) hx hb dX12_simple_1 (by decide) (fun hc => ?_) (fun hc => ?_)
  · have hm := it_f hc hm
    refine lv_iconst (v := 0) hx hb dX12_simple_8 ci_0 ?_
    exact wX12_simple_J9 C _ _ _ _ _ _ _ _ _ hm _ _ _ (lv_sub hl [0, 1, 2, 3] rfl) hw
  · have hm := it_t hc hm
    refine lv_iconst (v := 1) hx hb dX12_simple_4 ci_1 ?_
    refine lv_goto (tgt := 9) hx hb dX12_simple_5 (by decide) ?_
    exact wX12_simple_J9 C _ _ _ _ _ _ _ _ _ hm _ _ _ (lv_sub hl [0, 1, 2, 3] rfl) hw
def mX12_findMade_L3 : Nat → Int32 → Int32 → Int32 → Int32 → mI → mA → Option (Int32 × mI × mA)
  | 0, _, _, _, _, _, _ => none
  | n + 1, l1, l2, l3, l4, iv, ar => if (iv 22) ≤ l4 then some ((-1), iv, ar) else if l4 < 0 ∨ 400 ≤ l4.toNatClampNeg then none else if (ar 18 l4.toNatClampNeg) = l1 then if l4 < 0 ∨ 400 ≤ l4.toNatClampNeg then none else if (ar 19 l4.toNatClampNeg) = l2 then if l4 < 0 ∨ 400 ≤ l4.toNatClampNeg then none else if (ar 20 l4.toNatClampNeg) = l3 then if l4 < 0 ∨ 400 ≤ l4.toNatClampNeg then none else some ((ar 21 l4.toNatClampNeg), iv, ar) else mX12_findMade_L3 n l1 l2 l3 (l4 + 1) iv ar else mX12_findMade_L3 n l1 l2 l3 (l4 + 1) iv ar else mX12_findMade_L3 n l1 l2 l3 (l4 + 1) iv ar
set_option maxRecDepth 100000 in
set_option maxHeartbeats 4000000 in
theorem wX12_findMade_L3 (C : mCx p s m args meth c RX12 cX12_findMade 5 (some .int) D cI cJ A) (n : Nat) : ∀ (l1 : Int32) (l2 : Int32) (l3 : Int32) (l4 : Int32) (iv : mI) (ar : mA) (rz : Int32) (ivz : mI) (arz : mA), mX12_findMade_L3 n l1 l2 l3 l4 iv ar = some (rz, ivz, arz) → ∀ (H : Heap) (locs : List Loc) (ls : Array Slot), lv_has ls 5 [(0, .ref o), (1, .int l1), (2, .int l2), (3, .int l3), (4, .int l4)] → inW D A s (wM cI o ad iv ar) H locs → W p l e (rmO 0 0) s m args below meth c H locs 0 0 (MQ below (ctQ D cI cJ (wM cI o ad ivz arz) A rz) args s 0 0 A) (F0 m 3 ls []) := by
  induction n with
  | zero =>
    intro l1 l2 l3 l4 iv ar rz ivz arz hm H locs ls hl hw
    have hm : (none : Option (Int32 × mI × mA)) = some _ := hm
    cases hm
  | succ n ih =>
    intro l1 l2 l3 l4 iv ar rz ivz arz hm H locs ls hl hw
    have hx := C.1.1
    have hb := C.1.2.1
    unfold mX12_findMade_L3 at hm
    refine lv_iload hx hb dX12_findMade_3 (lv_at hl 4 rfl) ?_
    refine lv_aload_n hx hb dX12_findMade_5 rfl (lv_at hl 0 rfl) ?_
    refine g_get C hw gM_22 dX12_findMade_6 ?_
    refine lv_icmp_ge (tgt := 59) hx hb dX12_findMade_9 (by decide) (fun hc => ?_) (fun hc => ?_)
    · have hm := it_t hc hm
      refine lv_iconst (v := (-1)) hx hb dX12_findMade_59 ci_m1 ?_
      cases hm
      exact g_iret C hw dX12_findMade_60
    · have hm := it_f hc hm
      refine lv_aload_n hx hb dX12_findMade_12 rfl (lv_at hl 0 rfl) ?_
      refine g_get C hw gM_18 dX12_findMade_13 ?_
      refine lv_iload hx hb dX12_findMade_16 (lv_at hl 4 rfl) ?_
      obtain ⟨hi, hm⟩ := it_a hm
      refine g_ald C hw aM_18 hi dX12_findMade_18 ?_
      refine lv_iload_n hx hb dX12_findMade_19 rfl (lv_at hl 1 rfl) ?_
      refine lv_icmp_ne (tgt := 53) hx hb dX12_findMade_20 (by decide) (fun hc => ?_) (fun hc => ?_)
      · have hm := it_f hc hm
        refine lv_iinc (v := (l4 + 1)) (lv' := [(4, .int (l4 + 1)), (0, .ref o), (1, .int l1), (2, .int l2), (3, .int l3)]) hx hb dX12_findMade_53 hl (k := 4) rfl (ii_ ci_1) (by decide) rfl (fun ls hl => ?_)
        refine lv_goto (tgt := 3) hx hb dX12_findMade_56 (by decide) ?_
        exact ih _ _ _ _ _ _ _ _ _ hm _ _ _ (lv_sub hl [1, 2, 3, 4, 0] rfl) hw
      · have hm := it_t hc hm
        refine lv_aload_n hx hb dX12_findMade_23 rfl (lv_at hl 0 rfl) ?_
        refine g_get C hw gM_19 dX12_findMade_24 ?_
        refine lv_iload hx hb dX12_findMade_27 (lv_at hl 4 rfl) ?_
        obtain ⟨hi, hm⟩ := it_a hm
        refine g_ald C hw aM_19 hi dX12_findMade_29 ?_
        refine lv_iload_n hx hb dX12_findMade_30 rfl (lv_at hl 2 rfl) ?_
        refine lv_icmp_ne (tgt := 53) hx hb dX12_findMade_31 (by decide) (fun hc => ?_) (fun hc => ?_)
        · have hm := it_f hc hm
          refine lv_iinc (v := (l4 + 1)) (lv' := [(4, .int (l4 + 1)), (0, .ref o), (1, .int l1), (2, .int l2), (3, .int l3)]) hx hb dX12_findMade_53 hl (k := 4) rfl (ii_ ci_1) (by decide) rfl (fun ls hl => ?_)
          refine lv_goto (tgt := 3) hx hb dX12_findMade_56 (by decide) ?_
          exact ih _ _ _ _ _ _ _ _ _ hm _ _ _ (lv_sub hl [1, 2, 3, 4, 0] rfl) hw
        · have hm := it_t hc hm
          refine lv_aload_n hx hb dX12_findMade_34 rfl (lv_at hl 0 rfl) ?_
          refine g_get C hw gM_20 dX12_findMade_35 ?_
          refine lv_iload hx hb dX12_findMade_38 (lv_at hl 4 rfl) ?_
          obtain ⟨hi, hm⟩ := it_a hm
          refine g_ald C hw aM_20 hi dX12_findMade_40 ?_
          refine lv_iload_n hx hb dX12_findMade_41 rfl (lv_at hl 3 rfl) ?_
          refine lv_icmp_ne (tgt := 53) hx hb dX12_findMade_42 (by decide) (fun hc => ?_) (fun hc => ?_)
          · have hm := it_f hc hm
            refine lv_iinc (v := (l4 + 1)) (lv' := [(4, .int (l4 + 1)), (0, .ref o), (1, .int l1), (2, .int l2), (3, .int l3)]) hx hb dX12_findMade_53 hl (k := 4) rfl (ii_ ci_1) (by decide) rfl (fun ls hl => ?_)
            refine lv_goto (tgt := 3) hx hb dX12_findMade_56 (by decide) ?_
            exact ih _ _ _ _ _ _ _ _ _ hm _ _ _ (lv_sub hl [1, 2, 3, 4, 0] rfl) hw
          · have hm := it_t hc hm
            refine lv_aload_n hx hb dX12_findMade_45 rfl (lv_at hl 0 rfl) ?_
            refine g_get C hw gM_21 dX12_findMade_46 ?_
            refine lv_iload hx hb dX12_findMade_49 (lv_at hl 4 rfl) ?_
            obtain ⟨hi, hm⟩ := it_a hm
            refine g_ald C hw aM_21 hi dX12_findMade_51 ?_
            cases hm
            exact g_iret C hw dX12_findMade_52
def mX12_findMade (a1 : Int32) (a2 : Int32) (a3 : Int32) (iv : mI) (ar : mA) : Option (Int32 × mI × mA) := mX12_findMade_L3 bigF a1 a2 a3 0 iv ar
set_option maxRecDepth 100000 in
set_option maxHeartbeats 4000000 in
theorem kX12_findMade {a1 a2 a3 : Int32} {iv ivz : mI} {ar arz : mA} {rz : Int32} (hm : mX12_findMade a1 a2 a3 iv ar = some (rz, ivz, arz)) : Ct l D cI cJ yX12_findMade cX12_findMade 5 (some .int) 0 0 [.ref o, .int a1, .int a2, .int a3] (wM cI o ad iv ar) (wM cI o ad ivz arz) rz := by
  intro sz
  refine ct_of (by decide) (Nat.le_of_ble_eq_true rfl) ?_
  intro p e s m args below meth c C hw ls hl
  have hl : lv_has ls 5 [(0, .ref o), (1, .int a1), (2, .int a2), (3, .int a3)] := hl
  have hx := C.1.1
  have hb := C.1.2.1
  unfold mX12_findMade at hm
  refine lv_iconst (v := 0) hx hb dX12_findMade_0 ci_0 ?_
  refine lv_istore (lv' := [(4, .int 0), (0, .ref o), (1, .int a1), (2, .int a2), (3, .int a3)]) hx hb dX12_findMade_1 hl (by decide) rfl (fun ls hl => ?_)
  exact wX12_findMade_L3 C bigF _ _ _ _ _ _ _ _ _ hm _ _ _ (lv_sub hl [1, 2, 3, 4, 0] rfl) hw
def mX12_make_J337 (k207 : Int32 → Int32 → Int32 → Int32 → Int32 → Int32 → Int32 → mI → mA → Option (Int32 × mI × mA)) (l1 : Int32) (l2 : Int32) (l3 : Int32) (l5 : Int32) (l8 : Int32) (l9 : Int32) (l10 : Int32) (l11 : Int32) (l12 : Int32) (iv : mI) (ar : mA) : Option (Int32 × mI × mA) := if l11 = 0 then k207 l1 l2 l3 l5 l8 l9 (l10 + (-1)) iv ar else if l12 = 0 then ob (mX12_part l3 l10 iv ar) (fun r373 iv373 ar373 => if ((8 * l8) + l10) < 0 ∨ 3200 ≤ ((8 * l8) + l10).toNatClampNeg then none else k207 l1 l2 l3 l5 l8 l9 (l10 + (-1)) iv373 (au ar373 6 ((8 * l8) + l10).toNatClampNeg r373)) else ob (mX12_part l2 l10 iv ar) (fun r363 iv363 ar363 => if ((8 * l8) + l10) < 0 ∨ 3200 ≤ ((8 * l8) + l10).toNatClampNeg then none else k207 l1 l2 l3 l5 l8 l9 (l10 + (-1)) iv363 (au ar363 6 ((8 * l8) + l10).toNatClampNeg r363))
set_option maxRecDepth 100000 in
set_option maxHeartbeats 4000000 in
theorem wX12_make_J337 {k207 : Int32 → Int32 → Int32 → Int32 → Int32 → Int32 → Int32 → mI → mA → Option (Int32 × mI × mA)} (C : mCx p s m args meth c RX12 cX12_make 14 (some .int) D cI cJ A) (hk207 : ∀ (l1 : Int32) (l2 : Int32) (l3 : Int32) (l5 : Int32) (l8 : Int32) (l9 : Int32) (l10 : Int32) (iv : mI) (ar : mA) (rz : Int32) (ivz : mI) (arz : mA), k207 l1 l2 l3 l5 l8 l9 l10 iv ar = some (rz, ivz, arz) → ∀ (H : Heap) (locs : List Loc) (ls : Array Slot), lv_has ls 14 [(0, .ref o), (1, .int l1), (2, .int l2), (3, .int l3), (5, .int l5), (8, .int l8), (9, .int l9), (10, .int l10)] → inW D A s (wM cI o ad iv ar) H locs → W p l e (rmO 1 25) s m args below meth c H locs 0 0 (MQ below (ctQ D cI cJ (wM cI o ad ivz arz) A rz) args s 0 0 A) (F0 m 207 ls [])) : ∀ (l1 : Int32) (l2 : Int32) (l3 : Int32) (l5 : Int32) (l8 : Int32) (l9 : Int32) (l10 : Int32) (l11 : Int32) (l12 : Int32) (iv : mI) (ar : mA) (rz : Int32) (ivz : mI) (arz : mA), mX12_make_J337 k207 l1 l2 l3 l5 l8 l9 l10 l11 l12 iv ar = some (rz, ivz, arz) → ∀ (H : Heap) (locs : List Loc) (ls : Array Slot), lv_has ls 14 [(0, .ref o), (1, .int l1), (2, .int l2), (3, .int l3), (5, .int l5), (8, .int l8), (9, .int l9), (10, .int l10), (11, .int l11), (12, .int l12)] → inW D A s (wM cI o ad iv ar) H locs → W p l e (rmO 1 25) s m args below meth c H locs 0 0 (MQ below (ctQ D cI cJ (wM cI o ad ivz arz) A rz) args s 0 0 A) (F0 m 337 ls []) := by
  intro l1 l2 l3 l5 l8 l9 l10 l11 l12 iv ar rz ivz arz hm H locs ls hl hw
  have hx := C.1.1
  have hb := C.1.2.1
  unfold mX12_make_J337 at hm
  refine lv_iload hx hb dX12_make_337 (lv_at hl 8 rfl) ?_
  refine lv_if_eq (tgt := 377) hx hb dX12_make_339 (by decide) (fun hc => ?_) (fun hc => ?_)
  · have hm := it_t hc hm
    refine lv_iinc (v := (l10 + (-1))) (lv' := [(10, .int (l10 + (-1))), (0, .ref o), (1, .int l1), (2, .int l2), (3, .int l3), (5, .int l5), (8, .int l8), (9, .int l9), (11, .int l11), (12, .int l12)]) hx hb dX12_make_377 hl (k := 7) rfl (ii_ ci_m1) (by decide) rfl (fun ls hl => ?_)
    refine lv_goto (tgt := 207) hx hb dX12_make_380 (by decide) ?_
    exact hk207 _ _ _ _ _ _ _ _ _ _ _ _ hm _ _ _ (lv_sub hl [1, 2, 3, 4, 5, 6, 7, 0] rfl) hw
  · have hm := it_f hc hm
    refine lv_aload_n hx hb dX12_make_342 rfl (lv_at hl 0 rfl) ?_
    refine g_get C hw gM_6 dX12_make_343 ?_
    refine lv_bipush (v := 8) hx hb dX12_make_346 cb_8 ?_
    refine lv_iload hx hb dX12_make_348 (lv_at hl 5 rfl) ?_
    refine lv_imul hx hb dX12_make_350 ?_
    refine lv_iload hx hb dX12_make_351 (lv_at hl 7 rfl) ?_
    refine lv_iadd hx hb dX12_make_353 ?_
    refine lv_iload hx hb dX12_make_354 (lv_at hl 9 rfl) ?_
    refine lv_if_eq (tgt := 369) hx hb dX12_make_356 (by decide) (fun hc => ?_) (fun hc => ?_)
    · have hm := it_t hc hm
      refine lv_aload_n hx hb dX12_make_369 rfl (lv_at hl 0 rfl) ?_
      refine lv_iload_n hx hb dX12_make_370 rfl (lv_at hl 3 rfl) ?_
      refine lv_iload hx hb dX12_make_371 (lv_at hl 7 rfl) ?_
      obtain ⟨r373, iv373, ar373, hc373, hm⟩ := ob_some hm
      refine g_calli (As := [.int l3, .int l10]) (rest := [.int ((8 * l8) + l10), .ref (ad 6)]) C hw (kX12_part hc373) mtX12_part lkX12_242 oM hl.1 rfl rfl (Nat.le_of_ble_eq_true rfl) ⟨Nat.le_of_ble_eq_true rfl, Nat.le_of_ble_eq_true rfl⟩ dX12_make_373 ⟨Nat.zero_le _, Nat.zero_le _⟩ (fun H locs hw => ?_)
      obtain ⟨hi, hm⟩ := it_a hm
      refine g_ast C hw sM_6 hi dX12_make_376 (fun H locs hw => ?_)
      refine lv_iinc (v := (l10 + (-1))) (lv' := [(10, .int (l10 + (-1))), (0, .ref o), (1, .int l1), (2, .int l2), (3, .int l3), (5, .int l5), (8, .int l8), (9, .int l9), (11, .int l11), (12, .int l12)]) hx hb dX12_make_377 hl (k := 7) rfl (ii_ ci_m1) (by decide) rfl (fun ls hl => ?_)
      refine lv_goto (tgt := 207) hx hb dX12_make_380 (by decide) ?_
      exact hk207 _ _ _ _ _ _ _ _ _ _ _ _ hm _ _ _ (lv_sub hl [1, 2, 3, 4, 5, 6, 7, 0] rfl) hw
    · have hm := it_f hc hm
      refine lv_aload_n hx hb dX12_make_359 rfl (lv_at hl 0 rfl) ?_
      refine lv_iload_n hx hb dX12_make_360 rfl (lv_at hl 2 rfl) ?_
      refine lv_iload hx hb dX12_make_361 (lv_at hl 7 rfl) ?_
      obtain ⟨r363, iv363, ar363, hc363, hm⟩ := ob_some hm
      refine g_calli (As := [.int l2, .int l10]) (rest := [.int ((8 * l8) + l10), .ref (ad 6)]) C hw (kX12_part hc363) mtX12_part lkX12_242 oM hl.1 rfl rfl (Nat.le_of_ble_eq_true rfl) ⟨Nat.le_of_ble_eq_true rfl, Nat.le_of_ble_eq_true rfl⟩ dX12_make_363 ⟨Nat.zero_le _, Nat.zero_le _⟩ (fun H locs hw => ?_)
      refine lv_goto (tgt := 376) hx hb dX12_make_366 (by decide) ?_
      obtain ⟨hi, hm⟩ := it_a hm
      refine g_ast C hw sM_6 hi dX12_make_376 (fun H locs hw => ?_)
      refine lv_iinc (v := (l10 + (-1))) (lv' := [(10, .int (l10 + (-1))), (0, .ref o), (1, .int l1), (2, .int l2), (3, .int l3), (5, .int l5), (8, .int l8), (9, .int l9), (11, .int l11), (12, .int l12)]) hx hb dX12_make_377 hl (k := 7) rfl (ii_ ci_m1) (by decide) rfl (fun ls hl => ?_)
      refine lv_goto (tgt := 207) hx hb dX12_make_380 (by decide) ?_
      exact hk207 _ _ _ _ _ _ _ _ _ _ _ _ hm _ _ _ (lv_sub hl [1, 2, 3, 4, 5, 6, 7, 0] rfl) hw
def mX12_make_J313 (k207 : Int32 → Int32 → Int32 → Int32 → Int32 → Int32 → Int32 → mI → mA → Option (Int32 × mI × mA)) (l1 : Int32) (l2 : Int32) (l3 : Int32) (l5 : Int32) (l8 : Int32) (l9 : Int32) (l10 : Int32) (s0 : Int32) (iv : mI) (ar : mA) : Option (Int32 × mI × mA) := ob (mX12_part l2 l10 iv ar) (fun r317 iv317 ar317 => ob (mX12_part l3 l10 iv317 ar317) (fun r324 iv324 ar324 => ob (mX12_ask s0 r317 r324 l8 l10 iv324 ar324) (fun r331 iv331 ar331 => k207 l1 l2 l3 l5 l8 l9 (l10 + (-1)) iv331 ar331)))
set_option maxRecDepth 100000 in
set_option maxHeartbeats 4000000 in
theorem wX12_make_J313 {k207 : Int32 → Int32 → Int32 → Int32 → Int32 → Int32 → Int32 → mI → mA → Option (Int32 × mI × mA)} (C : mCx p s m args meth c RX12 cX12_make 14 (some .int) D cI cJ A) (hk207 : ∀ (l1 : Int32) (l2 : Int32) (l3 : Int32) (l5 : Int32) (l8 : Int32) (l9 : Int32) (l10 : Int32) (iv : mI) (ar : mA) (rz : Int32) (ivz : mI) (arz : mA), k207 l1 l2 l3 l5 l8 l9 l10 iv ar = some (rz, ivz, arz) → ∀ (H : Heap) (locs : List Loc) (ls : Array Slot), lv_has ls 14 [(0, .ref o), (1, .int l1), (2, .int l2), (3, .int l3), (5, .int l5), (8, .int l8), (9, .int l9), (10, .int l10)] → inW D A s (wM cI o ad iv ar) H locs → W p l e (rmO 1 25) s m args below meth c H locs 0 0 (MQ below (ctQ D cI cJ (wM cI o ad ivz arz) A rz) args s 0 0 A) (F0 m 207 ls [])) : ∀ (l1 : Int32) (l2 : Int32) (l3 : Int32) (l5 : Int32) (l8 : Int32) (l9 : Int32) (l10 : Int32) (s0 : Int32) (iv : mI) (ar : mA) (rz : Int32) (ivz : mI) (arz : mA), mX12_make_J313 k207 l1 l2 l3 l5 l8 l9 l10 s0 iv ar = some (rz, ivz, arz) → ∀ (H : Heap) (locs : List Loc) (ls : Array Slot), lv_has ls 14 [(0, .ref o), (1, .int l1), (2, .int l2), (3, .int l3), (5, .int l5), (8, .int l8), (9, .int l9), (10, .int l10)] → inW D A s (wM cI o ad iv ar) H locs → W p l e (rmO 1 25) s m args below meth c H locs 0 0 (MQ below (ctQ D cI cJ (wM cI o ad ivz arz) A rz) args s 0 0 A) (F0 m 313 ls [.int s0, .ref o]) := by
  intro l1 l2 l3 l5 l8 l9 l10 s0 iv ar rz ivz arz hm H locs ls hl hw
  have hx := C.1.1
  have hb := C.1.2.1
  unfold mX12_make_J313 at hm
  refine lv_aload_n hx hb dX12_make_313 rfl (lv_at hl 0 rfl) ?_
  refine lv_iload_n hx hb dX12_make_314 rfl (lv_at hl 2 rfl) ?_
  refine lv_iload hx hb dX12_make_315 (lv_at hl 7 rfl) ?_
  obtain ⟨r317, iv317, ar317, hc317, hm⟩ := ob_some hm
  refine g_calli (As := [.int l2, .int l10]) (rest := [.int s0, .ref o]) C hw (kX12_part hc317) mtX12_part lkX12_242 oM hl.1 rfl rfl (Nat.le_of_ble_eq_true rfl) ⟨Nat.le_of_ble_eq_true rfl, Nat.le_of_ble_eq_true rfl⟩ dX12_make_317 ⟨Nat.zero_le _, Nat.zero_le _⟩ (fun H locs hw => ?_)
  refine lv_aload_n hx hb dX12_make_320 rfl (lv_at hl 0 rfl) ?_
  refine lv_iload_n hx hb dX12_make_321 rfl (lv_at hl 3 rfl) ?_
  refine lv_iload hx hb dX12_make_322 (lv_at hl 7 rfl) ?_
  obtain ⟨r324, iv324, ar324, hc324, hm⟩ := ob_some hm
  refine g_calli (As := [.int l3, .int l10]) (rest := [.int r317, .int s0, .ref o]) C hw (kX12_part hc324) mtX12_part lkX12_242 oM hl.1 rfl rfl (Nat.le_of_ble_eq_true rfl) ⟨Nat.le_of_ble_eq_true rfl, Nat.le_of_ble_eq_true rfl⟩ dX12_make_324 ⟨Nat.zero_le _, Nat.zero_le _⟩ (fun H locs hw => ?_)
  refine lv_iload hx hb dX12_make_327 (lv_at hl 5 rfl) ?_
  refine lv_iload hx hb dX12_make_329 (lv_at hl 7 rfl) ?_
  obtain ⟨r331, iv331, ar331, hc331, hm⟩ := ob_some hm
  refine g_callv (As := [.int s0, .int r317, .int r324, .int l8, .int l10]) (rest := []) C hw (kX12_ask hc331) mtX12_ask lkX12_278 oM hl.1 rfl rfl (Nat.le_of_ble_eq_true rfl) ⟨Nat.le_of_ble_eq_true rfl, Nat.le_of_ble_eq_true rfl⟩ dX12_make_331 ⟨Nat.zero_le _, Nat.zero_le _⟩ (fun H locs hw => ?_)
  refine lv_goto (tgt := 377) hx hb dX12_make_334 (by decide) ?_
  refine lv_iinc (v := (l10 + (-1))) (lv' := [(10, .int (l10 + (-1))), (0, .ref o), (1, .int l1), (2, .int l2), (3, .int l3), (5, .int l5), (8, .int l8), (9, .int l9)]) hx hb dX12_make_377 hl (k := 7) rfl (ii_ ci_m1) (by decide) rfl (fun ls hl => ?_)
  refine lv_goto (tgt := 207) hx hb dX12_make_380 (by decide) ?_
  exact hk207 _ _ _ _ _ _ _ _ _ _ _ _ hm _ _ _ (lv_sub hl [1, 2, 3, 4, 5, 6, 7, 0] rfl) hw
def mX12_make_J282 (k207 : Int32 → Int32 → Int32 → Int32 → Int32 → Int32 → Int32 → mI → mA → Option (Int32 × mI × mA)) (l1 : Int32) (l2 : Int32) (l3 : Int32) (l5 : Int32) (l8 : Int32) (l9 : Int32) (l10 : Int32) (l11 : Int32) (l12 : Int32) (s0 : Int32) (iv : mI) (ar : mA) : Option (Int32 × mI × mA) := if l12 = 0 then mX12_make_J337 k207 l1 l2 l3 l5 l8 l9 l10 l11 l12 iv ar else if s0 = 0 then mX12_make_J337 k207 l1 l2 l3 l5 l8 l9 l10 l11 l12 iv ar else if l5 = 4 then if l10 = 0 then mX12_make_J313 k207 l1 l2 l3 l5 l8 l9 l10 (1 - l1) iv ar else mX12_make_J313 k207 l1 l2 l3 l5 l8 l9 l10 l1 iv ar else mX12_make_J313 k207 l1 l2 l3 l5 l8 l9 l10 l1 iv ar
set_option maxRecDepth 100000 in
set_option maxHeartbeats 4000000 in
theorem wX12_make_J282 {k207 : Int32 → Int32 → Int32 → Int32 → Int32 → Int32 → Int32 → mI → mA → Option (Int32 × mI × mA)} (C : mCx p s m args meth c RX12 cX12_make 14 (some .int) D cI cJ A) (hk207 : ∀ (l1 : Int32) (l2 : Int32) (l3 : Int32) (l5 : Int32) (l8 : Int32) (l9 : Int32) (l10 : Int32) (iv : mI) (ar : mA) (rz : Int32) (ivz : mI) (arz : mA), k207 l1 l2 l3 l5 l8 l9 l10 iv ar = some (rz, ivz, arz) → ∀ (H : Heap) (locs : List Loc) (ls : Array Slot), lv_has ls 14 [(0, .ref o), (1, .int l1), (2, .int l2), (3, .int l3), (5, .int l5), (8, .int l8), (9, .int l9), (10, .int l10)] → inW D A s (wM cI o ad iv ar) H locs → W p l e (rmO 1 25) s m args below meth c H locs 0 0 (MQ below (ctQ D cI cJ (wM cI o ad ivz arz) A rz) args s 0 0 A) (F0 m 207 ls [])) : ∀ (l1 : Int32) (l2 : Int32) (l3 : Int32) (l5 : Int32) (l8 : Int32) (l9 : Int32) (l10 : Int32) (l11 : Int32) (l12 : Int32) (s0 : Int32) (iv : mI) (ar : mA) (rz : Int32) (ivz : mI) (arz : mA), mX12_make_J282 k207 l1 l2 l3 l5 l8 l9 l10 l11 l12 s0 iv ar = some (rz, ivz, arz) → ∀ (H : Heap) (locs : List Loc) (ls : Array Slot), lv_has ls 14 [(0, .ref o), (1, .int l1), (2, .int l2), (3, .int l3), (5, .int l5), (8, .int l8), (9, .int l9), (10, .int l10), (11, .int l11), (12, .int l12)] → inW D A s (wM cI o ad iv ar) H locs → W p l e (rmO 1 25) s m args below meth c H locs 0 0 (MQ below (ctQ D cI cJ (wM cI o ad ivz arz) A rz) args s 0 0 A) (F0 m 282 ls [.int s0]) := by
  intro l1 l2 l3 l5 l8 l9 l10 l11 l12 s0 iv ar rz ivz arz hm H locs ls hl hw
  have hx := C.1.1
  have hb := C.1.2.1
  unfold mX12_make_J282 at hm
  refine lv_istore (lv' := [(13, .int s0), (0, .ref o), (1, .int l1), (2, .int l2), (3, .int l3), (5, .int l5), (8, .int l8), (9, .int l9), (10, .int l10), (11, .int l11), (12, .int l12)]) hx hb dX12_make_282 hl (by decide) rfl (fun ls hl => ?_)
  refine lv_iload hx hb dX12_make_284 (lv_at hl 10 rfl) ?_
  refine lv_if_eq (tgt := 337) hx hb dX12_make_286 (by decide) (fun hc => ?_) (fun hc => ?_)
  · have hm := it_t hc hm
    exact wX12_make_J337 C hk207 _ _ _ _ _ _ _ _ _ _ _ _ _ _ hm _ _ _ (lv_sub hl [1, 2, 3, 4, 5, 6, 7, 8, 9, 10] rfl) hw
  · have hm := it_f hc hm
    refine lv_iload hx hb dX12_make_289 (lv_at hl 0 rfl) ?_
    refine lv_if_eq (tgt := 337) hx hb dX12_make_291 (by decide) (fun hc => ?_) (fun hc => ?_)
    · have hm := it_t hc hm
      exact wX12_make_J337 C hk207 _ _ _ _ _ _ _ _ _ _ _ _ _ _ hm _ _ _ (lv_sub hl [1, 2, 3, 4, 5, 6, 7, 8, 9, 10] rfl) hw
    · have hm := it_f hc hm
      refine lv_aload_n hx hb dX12_make_294 rfl (lv_at hl 1 rfl) ?_
      refine lv_iload hx hb dX12_make_295 (lv_at hl 5 rfl) ?_
      refine lv_iconst (v := 4) hx hb dX12_make_297 ci_4 ?_
      refine lv_icmp_ne (tgt := 312) hx hb dX12_make_298 (by decide) (fun hc => ?_) (fun hc => ?_)
      · have hm := it_f hc hm
        refine lv_iload_n hx hb dX12_make_312 rfl (lv_at hl 2 rfl) ?_
        exact wX12_make_J313 C hk207 _ _ _ _ _ _ _ _ _ _ _ _ _ hm _ _ _ (lv_sub hl [1, 2, 3, 4, 5, 6, 7, 8] rfl) hw
      · have hm := it_t hc hm
        refine lv_iload hx hb dX12_make_301 (lv_at hl 8 rfl) ?_
        refine lv_if_ne (tgt := 312) hx hb dX12_make_303 (by decide) (fun hc => ?_) (fun hc => ?_)
        · have hm := it_f hc hm
          refine lv_iload_n hx hb dX12_make_312 rfl (lv_at hl 2 rfl) ?_
          exact wX12_make_J313 C hk207 _ _ _ _ _ _ _ _ _ _ _ _ _ hm _ _ _ (lv_sub hl [1, 2, 3, 4, 5, 6, 7, 8] rfl) hw
        · have hm := it_t hc hm
          refine lv_iconst (v := 1) hx hb dX12_make_306 ci_1 ?_
          refine lv_iload_n hx hb dX12_make_307 rfl (lv_at hl 2 rfl) ?_
          refine lv_isub hx hb dX12_make_308 ?_
          refine lv_goto (tgt := 313) hx hb dX12_make_309 (by decide) ?_
          exact wX12_make_J313 C hk207 _ _ _ _ _ _ _ _ _ _ _ _ _ hm _ _ _ (lv_sub hl [1, 2, 3, 4, 5, 6, 7, 8] rfl) hw
def mX12_make_J255 (k207 : Int32 → Int32 → Int32 → Int32 → Int32 → Int32 → Int32 → mI → mA → Option (Int32 × mI × mA)) (l1 : Int32) (l2 : Int32) (l3 : Int32) (l5 : Int32) (l8 : Int32) (l9 : Int32) (l10 : Int32) (l11 : Int32) (s0 : Int32) (iv : mI) (ar : mA) : Option (Int32 × mI × mA) := if l11 = 0 then mX12_make_J282 k207 l1 l2 l3 l5 l8 l9 l10 l11 s0 0 iv ar else if l3 < 0 ∨ 400 ≤ l3.toNatClampNeg then none else if (((ar 5 l3.toNatClampNeg) >>> (l10 &&& 31)) &&& 1) = 1 then mX12_make_J282 k207 l1 l2 l3 l5 l8 l9 l10 l11 s0 1 iv ar else mX12_make_J282 k207 l1 l2 l3 l5 l8 l9 l10 l11 s0 0 iv ar
set_option maxRecDepth 100000 in
set_option maxHeartbeats 4000000 in
theorem wX12_make_J255 {k207 : Int32 → Int32 → Int32 → Int32 → Int32 → Int32 → Int32 → mI → mA → Option (Int32 × mI × mA)} (C : mCx p s m args meth c RX12 cX12_make 14 (some .int) D cI cJ A) (hk207 : ∀ (l1 : Int32) (l2 : Int32) (l3 : Int32) (l5 : Int32) (l8 : Int32) (l9 : Int32) (l10 : Int32) (iv : mI) (ar : mA) (rz : Int32) (ivz : mI) (arz : mA), k207 l1 l2 l3 l5 l8 l9 l10 iv ar = some (rz, ivz, arz) → ∀ (H : Heap) (locs : List Loc) (ls : Array Slot), lv_has ls 14 [(0, .ref o), (1, .int l1), (2, .int l2), (3, .int l3), (5, .int l5), (8, .int l8), (9, .int l9), (10, .int l10)] → inW D A s (wM cI o ad iv ar) H locs → W p l e (rmO 1 25) s m args below meth c H locs 0 0 (MQ below (ctQ D cI cJ (wM cI o ad ivz arz) A rz) args s 0 0 A) (F0 m 207 ls [])) : ∀ (l1 : Int32) (l2 : Int32) (l3 : Int32) (l5 : Int32) (l8 : Int32) (l9 : Int32) (l10 : Int32) (l11 : Int32) (s0 : Int32) (iv : mI) (ar : mA) (rz : Int32) (ivz : mI) (arz : mA), mX12_make_J255 k207 l1 l2 l3 l5 l8 l9 l10 l11 s0 iv ar = some (rz, ivz, arz) → ∀ (H : Heap) (locs : List Loc) (ls : Array Slot), lv_has ls 14 [(0, .ref o), (1, .int l1), (2, .int l2), (3, .int l3), (5, .int l5), (8, .int l8), (9, .int l9), (10, .int l10), (11, .int l11)] → inW D A s (wM cI o ad iv ar) H locs → W p l e (rmO 1 25) s m args below meth c H locs 0 0 (MQ below (ctQ D cI cJ (wM cI o ad ivz arz) A rz) args s 0 0 A) (F0 m 255 ls [.int s0]) := by
  intro l1 l2 l3 l5 l8 l9 l10 l11 s0 iv ar rz ivz arz hm H locs ls hl hw
  have hx := C.1.1
  have hb := C.1.2.1
  unfold mX12_make_J255 at hm
  refine lv_istore (lv' := [(12, .int s0), (0, .ref o), (1, .int l1), (2, .int l2), (3, .int l3), (5, .int l5), (8, .int l8), (9, .int l9), (10, .int l10), (11, .int l11)]) hx hb dX12_make_255 hl (by decide) rfl (fun ls hl => ?_)
  refine lv_iload hx hb dX12_make_257 (lv_at hl 9 rfl) ?_
  refine lv_if_eq (tgt := 281) hx hb dX12_make_259 (by decide) (fun hc => ?_) (fun hc => ?_)
  · have hm := it_t hc hm
    refine lv_iconst (v := 0) hx hb dX12_make_281 ci_0 ?_
    exact wX12_make_J282 C hk207 _ _ _ _ _ _ _ _ _ _ _ _ _ _ _ hm _ _ _ (lv_sub hl [1, 2, 3, 4, 5, 6, 7, 8, 9, 0] rfl) hw
  · have hm := it_f hc hm
    refine lv_aload_n hx hb dX12_make_262 rfl (lv_at hl 1 rfl) ?_
    refine g_get C hw gM_5 dX12_make_263 ?_
    refine lv_iload_n hx hb dX12_make_266 rfl (lv_at hl 4 rfl) ?_
    obtain ⟨hi, hm⟩ := it_a hm
    refine g_ald C hw aM_5 hi dX12_make_267 ?_
    refine lv_iload hx hb dX12_make_268 (lv_at hl 8 rfl) ?_
    refine lv_ishr hx hb dX12_make_270 ?_
    refine lv_iconst (v := 1) hx hb dX12_make_271 ci_1 ?_
    refine lv_iand hx hb dX12_make_272 ?_
    refine lv_iconst (v := 1) hx hb dX12_make_273 ci_1 ?_
    refine lv_icmp_ne (tgt := 281) hx hb dX12_make_274 (by decide) (fun hc => ?_) (fun hc => ?_)
    · have hm := it_f hc hm
      refine lv_iconst (v := 0) hx hb dX12_make_281 ci_0 ?_
      exact wX12_make_J282 C hk207 _ _ _ _ _ _ _ _ _ _ _ _ _ _ _ hm _ _ _ (lv_sub hl [1, 2, 3, 4, 5, 6, 7, 8, 9, 0] rfl) hw
    · have hm := it_t hc hm
      refine lv_iconst (v := 1) hx hb dX12_make_277 ci_1 ?_
      refine lv_goto (tgt := 282) hx hb dX12_make_278 (by decide) ?_
      exact wX12_make_J282 C hk207 _ _ _ _ _ _ _ _ _ _ _ _ _ _ _ hm _ _ _ (lv_sub hl [1, 2, 3, 4, 5, 6, 7, 8, 9, 0] rfl) hw
def mX12_make_J228 (k207 : Int32 → Int32 → Int32 → Int32 → Int32 → Int32 → Int32 → mI → mA → Option (Int32 × mI × mA)) (l1 : Int32) (l2 : Int32) (l3 : Int32) (l5 : Int32) (l8 : Int32) (l9 : Int32) (l10 : Int32) (s0 : Int32) (iv : mI) (ar : mA) : Option (Int32 × mI × mA) := if s0 = 0 then mX12_make_J255 k207 l1 l2 l3 l5 l8 l9 l10 s0 0 iv ar else if l2 < 0 ∨ 400 ≤ l2.toNatClampNeg then none else if (((ar 5 l2.toNatClampNeg) >>> (l10 &&& 31)) &&& 1) = 1 then mX12_make_J255 k207 l1 l2 l3 l5 l8 l9 l10 s0 1 iv ar else mX12_make_J255 k207 l1 l2 l3 l5 l8 l9 l10 s0 0 iv ar
set_option maxRecDepth 100000 in
set_option maxHeartbeats 4000000 in
theorem wX12_make_J228 {k207 : Int32 → Int32 → Int32 → Int32 → Int32 → Int32 → Int32 → mI → mA → Option (Int32 × mI × mA)} (C : mCx p s m args meth c RX12 cX12_make 14 (some .int) D cI cJ A) (hk207 : ∀ (l1 : Int32) (l2 : Int32) (l3 : Int32) (l5 : Int32) (l8 : Int32) (l9 : Int32) (l10 : Int32) (iv : mI) (ar : mA) (rz : Int32) (ivz : mI) (arz : mA), k207 l1 l2 l3 l5 l8 l9 l10 iv ar = some (rz, ivz, arz) → ∀ (H : Heap) (locs : List Loc) (ls : Array Slot), lv_has ls 14 [(0, .ref o), (1, .int l1), (2, .int l2), (3, .int l3), (5, .int l5), (8, .int l8), (9, .int l9), (10, .int l10)] → inW D A s (wM cI o ad iv ar) H locs → W p l e (rmO 1 25) s m args below meth c H locs 0 0 (MQ below (ctQ D cI cJ (wM cI o ad ivz arz) A rz) args s 0 0 A) (F0 m 207 ls [])) : ∀ (l1 : Int32) (l2 : Int32) (l3 : Int32) (l5 : Int32) (l8 : Int32) (l9 : Int32) (l10 : Int32) (s0 : Int32) (iv : mI) (ar : mA) (rz : Int32) (ivz : mI) (arz : mA), mX12_make_J228 k207 l1 l2 l3 l5 l8 l9 l10 s0 iv ar = some (rz, ivz, arz) → ∀ (H : Heap) (locs : List Loc) (ls : Array Slot), lv_has ls 14 [(0, .ref o), (1, .int l1), (2, .int l2), (3, .int l3), (5, .int l5), (8, .int l8), (9, .int l9), (10, .int l10)] → inW D A s (wM cI o ad iv ar) H locs → W p l e (rmO 1 25) s m args below meth c H locs 0 0 (MQ below (ctQ D cI cJ (wM cI o ad ivz arz) A rz) args s 0 0 A) (F0 m 228 ls [.int s0]) := by
  intro l1 l2 l3 l5 l8 l9 l10 s0 iv ar rz ivz arz hm H locs ls hl hw
  have hx := C.1.1
  have hb := C.1.2.1
  unfold mX12_make_J228 at hm
  refine lv_istore (lv' := [(11, .int s0), (0, .ref o), (1, .int l1), (2, .int l2), (3, .int l3), (5, .int l5), (8, .int l8), (9, .int l9), (10, .int l10)]) hx hb dX12_make_228 hl (by decide) rfl (fun ls hl => ?_)
  refine lv_iload hx hb dX12_make_230 (lv_at hl 0 rfl) ?_
  refine lv_if_eq (tgt := 254) hx hb dX12_make_232 (by decide) (fun hc => ?_) (fun hc => ?_)
  · have hm := it_t hc hm
    refine lv_iconst (v := 0) hx hb dX12_make_254 ci_0 ?_
    exact wX12_make_J255 C hk207 _ _ _ _ _ _ _ _ _ _ _ _ _ _ hm _ _ _ (lv_sub hl [1, 2, 3, 4, 5, 6, 7, 8, 0] rfl) hw
  · have hm := it_f hc hm
    refine lv_aload_n hx hb dX12_make_235 rfl (lv_at hl 1 rfl) ?_
    refine g_get C hw gM_5 dX12_make_236 ?_
    refine lv_iload_n hx hb dX12_make_239 rfl (lv_at hl 3 rfl) ?_
    obtain ⟨hi, hm⟩ := it_a hm
    refine g_ald C hw aM_5 hi dX12_make_240 ?_
    refine lv_iload hx hb dX12_make_241 (lv_at hl 8 rfl) ?_
    refine lv_ishr hx hb dX12_make_243 ?_
    refine lv_iconst (v := 1) hx hb dX12_make_244 ci_1 ?_
    refine lv_iand hx hb dX12_make_245 ?_
    refine lv_iconst (v := 1) hx hb dX12_make_246 ci_1 ?_
    refine lv_icmp_ne (tgt := 254) hx hb dX12_make_247 (by decide) (fun hc => ?_) (fun hc => ?_)
    · have hm := it_f hc hm
      refine lv_iconst (v := 0) hx hb dX12_make_254 ci_0 ?_
      exact wX12_make_J255 C hk207 _ _ _ _ _ _ _ _ _ _ _ _ _ _ hm _ _ _ (lv_sub hl [1, 2, 3, 4, 5, 6, 7, 8, 0] rfl) hw
    · have hm := it_t hc hm
      refine lv_iconst (v := 1) hx hb dX12_make_250 ci_1 ?_
      refine lv_goto (tgt := 255) hx hb dX12_make_251 (by decide) ?_
      exact wX12_make_J255 C hk207 _ _ _ _ _ _ _ _ _ _ _ _ _ _ hm _ _ _ (lv_sub hl [1, 2, 3, 4, 5, 6, 7, 8, 0] rfl) hw
def mX12_make_L207 : Nat → Int32 → Int32 → Int32 → Int32 → Int32 → Int32 → Int32 → mI → mA → Option (Int32 × mI × mA)
  | 0, _, _, _, _, _, _, _, _, _ => none
  | n + 1, l1, l2, l3, l5, l8, l9, l10, iv, ar => if l10 < 0 then some (l8, iv, ar) else if ((l9 >>> (l10 &&& 31)) &&& 1) = 1 then mX12_make_J228 (mX12_make_L207 n) l1 l2 l3 l5 l8 l9 l10 1 iv ar else mX12_make_J228 (mX12_make_L207 n) l1 l2 l3 l5 l8 l9 l10 0 iv ar
set_option maxRecDepth 100000 in
set_option maxHeartbeats 4000000 in
theorem wX12_make_L207 (C : mCx p s m args meth c RX12 cX12_make 14 (some .int) D cI cJ A) (n : Nat) : ∀ (l1 : Int32) (l2 : Int32) (l3 : Int32) (l5 : Int32) (l8 : Int32) (l9 : Int32) (l10 : Int32) (iv : mI) (ar : mA) (rz : Int32) (ivz : mI) (arz : mA), mX12_make_L207 n l1 l2 l3 l5 l8 l9 l10 iv ar = some (rz, ivz, arz) → ∀ (H : Heap) (locs : List Loc) (ls : Array Slot), lv_has ls 14 [(0, .ref o), (1, .int l1), (2, .int l2), (3, .int l3), (5, .int l5), (8, .int l8), (9, .int l9), (10, .int l10)] → inW D A s (wM cI o ad iv ar) H locs → W p l e (rmO 1 25) s m args below meth c H locs 0 0 (MQ below (ctQ D cI cJ (wM cI o ad ivz arz) A rz) args s 0 0 A) (F0 m 207 ls []) := by
  induction n with
  | zero =>
    intro l1 l2 l3 l5 l8 l9 l10 iv ar rz ivz arz hm H locs ls hl hw
    have hm : (none : Option (Int32 × mI × mA)) = some _ := hm
    cases hm
  | succ n ih =>
    intro l1 l2 l3 l5 l8 l9 l10 iv ar rz ivz arz hm H locs ls hl hw
    have hx := C.1.1
    have hb := C.1.2.1
    unfold mX12_make_L207 at hm
    refine lv_iload hx hb dX12_make_207 (lv_at hl 7 rfl) ?_
    refine lv_if_lt (tgt := 383) hx hb dX12_make_209 (by decide) (fun hc => ?_) (fun hc => ?_)
    · have hm := it_t hc hm
      refine lv_iload hx hb dX12_make_383 (lv_at hl 5 rfl) ?_
      cases hm
      exact g_iret C hw dX12_make_385
    · have hm := it_f hc hm
      refine lv_iload hx hb dX12_make_212 (lv_at hl 6 rfl) ?_
      refine lv_iload hx hb dX12_make_214 (lv_at hl 7 rfl) ?_
      refine lv_ishr hx hb dX12_make_216 ?_
      refine lv_iconst (v := 1) hx hb dX12_make_217 ci_1 ?_
      refine lv_iand hx hb dX12_make_218 ?_
      refine lv_iconst (v := 1) hx hb dX12_make_219 ci_1 ?_
      refine lv_icmp_ne (tgt := 227) hx hb dX12_make_220 (by decide) (fun hc => ?_) (fun hc => ?_)
      · have hm := it_f hc hm
        refine lv_iconst (v := 0) hx hb dX12_make_227 ci_0 ?_
        exact wX12_make_J228 C ih _ _ _ _ _ _ _ _ _ _ _ _ _ hm _ _ _ (lv_sub hl [0, 1, 2, 3, 4, 5, 6, 7] rfl) hw
      · have hm := it_t hc hm
        refine lv_iconst (v := 1) hx hb dX12_make_223 ci_1 ?_
        refine lv_goto (tgt := 228) hx hb dX12_make_224 (by decide) ?_
        exact wX12_make_J228 C ih _ _ _ _ _ _ _ _ _ _ _ _ _ hm _ _ _ (lv_sub hl [0, 1, 2, 3, 4, 5, 6, 7] rfl) hw
def mX12_make_J121 (l1 : Int32) (l2 : Int32) (l3 : Int32) (l5 : Int32) (s0 : Int32) (iv : mI) (ar : mA) : Option (Int32 × mI × mA) := ob (mX12_newNode l5 s0 iv ar) (fun r128 iv128 ar128 => if (iv128 22) < 0 ∨ 400 ≤ (iv128 22).toNatClampNeg then none else if (iv128 22) < 0 ∨ 400 ≤ (iv128 22).toNatClampNeg then none else if (iv128 22) < 0 ∨ 400 ≤ (iv128 22).toNatClampNeg then none else if (iv128 22) < 0 ∨ 400 ≤ (iv128 22).toNatClampNeg then none else if 4 ≤ l5 then if r128 < 0 ∨ 400 ≤ r128.toNatClampNeg then none else mX12_make_L207 bigF l1 l2 l3 l5 r128 ((au (au (au (au ar128 18 (iv128 22).toNatClampNeg l1) 19 (iv128 22).toNatClampNeg l2) 20 (iv128 22).toNatClampNeg l3) 21 (iv128 22).toNatClampNeg r128) 5 r128.toNatClampNeg) 7 (va_up iv128 22 ((iv128 22) + 1)) (au (au (au (au ar128 18 (iv128 22).toNatClampNeg l1) 19 (iv128 22).toNatClampNeg l2) 20 (iv128 22).toNatClampNeg l3) 21 (iv128 22).toNatClampNeg r128) else mX12_make_L207 bigF l1 l2 l3 l5 r128 0 7 (va_up iv128 22 ((iv128 22) + 1)) (au (au (au (au ar128 18 (iv128 22).toNatClampNeg l1) 19 (iv128 22).toNatClampNeg l2) 20 (iv128 22).toNatClampNeg l3) 21 (iv128 22).toNatClampNeg r128))
set_option maxRecDepth 100000 in
set_option maxHeartbeats 4000000 in
theorem wX12_make_J121 (C : mCx p s m args meth c RX12 cX12_make 14 (some .int) D cI cJ A) : ∀ (l1 : Int32) (l2 : Int32) (l3 : Int32) (l5 : Int32) (s0 : Int32) (iv : mI) (ar : mA) (rz : Int32) (ivz : mI) (arz : mA), mX12_make_J121 l1 l2 l3 l5 s0 iv ar = some (rz, ivz, arz) → ∀ (H : Heap) (locs : List Loc) (ls : Array Slot), lv_has ls 14 [(0, .ref o), (1, .int l1), (2, .int l2), (3, .int l3), (5, .int l5)] → inW D A s (wM cI o ad iv ar) H locs → W p l e (rmO 1 25) s m args below meth c H locs 0 0 (MQ below (ctQ D cI cJ (wM cI o ad ivz arz) A rz) args s 0 0 A) (F0 m 121 ls [.int s0]) := by
  intro l1 l2 l3 l5 s0 iv ar rz ivz arz hm H locs ls hl hw
  have hx := C.1.1
  have hb := C.1.2.1
  unfold mX12_make_J121 at hm
  refine lv_istore (lv' := [(7, .int s0), (0, .ref o), (1, .int l1), (2, .int l2), (3, .int l3), (5, .int l5)]) hx hb dX12_make_121 hl (by decide) rfl (fun ls hl => ?_)
  refine lv_aload_n hx hb dX12_make_123 rfl (lv_at hl 1 rfl) ?_
  refine lv_iload hx hb dX12_make_124 (lv_at hl 5 rfl) ?_
  refine lv_iload hx hb dX12_make_126 (lv_at hl 0 rfl) ?_
  obtain ⟨r128, iv128, ar128, hc128, hm⟩ := ob_some hm
  refine g_calli (As := [.int l5, .int s0]) (rest := []) C hw (kX12_newNode hc128) mtX12_newNode lkX12_228 oM hl.1 rfl rfl (Nat.le_of_ble_eq_true rfl) ⟨Nat.le_of_ble_eq_true rfl, Nat.le_of_ble_eq_true rfl⟩ dX12_make_128 ⟨Nat.zero_le _, Nat.zero_le _⟩ (fun H locs hw => ?_)
  refine lv_istore (lv' := [(8, .int r128), (7, .int s0), (0, .ref o), (1, .int l1), (2, .int l2), (3, .int l3), (5, .int l5)]) hx hb dX12_make_131 hl (by decide) rfl (fun ls hl => ?_)
  refine lv_aload_n hx hb dX12_make_133 rfl (lv_at hl 2 rfl) ?_
  refine g_get C hw gM_18 dX12_make_134 ?_
  refine lv_aload_n hx hb dX12_make_137 rfl (lv_at hl 2 rfl) ?_
  refine g_get C hw gM_22 dX12_make_138 ?_
  refine lv_iload_n hx hb dX12_make_141 rfl (lv_at hl 3 rfl) ?_
  obtain ⟨hi, hm⟩ := it_a hm
  refine g_ast C hw sM_18 hi dX12_make_142 (fun H locs hw => ?_)
  refine lv_aload_n hx hb dX12_make_143 rfl (lv_at hl 2 rfl) ?_
  refine g_get C hw gM_19 dX12_make_144 ?_
  refine lv_aload_n hx hb dX12_make_147 rfl (lv_at hl 2 rfl) ?_
  refine g_get C hw gM_22 dX12_make_148 ?_
  refine lv_iload_n hx hb dX12_make_151 rfl (lv_at hl 4 rfl) ?_
  obtain ⟨hi, hm⟩ := it_a hm
  refine g_ast C hw sM_19 hi dX12_make_152 (fun H locs hw => ?_)
  refine lv_aload_n hx hb dX12_make_153 rfl (lv_at hl 2 rfl) ?_
  refine g_get C hw gM_20 dX12_make_154 ?_
  refine lv_aload_n hx hb dX12_make_157 rfl (lv_at hl 2 rfl) ?_
  refine g_get C hw gM_22 dX12_make_158 ?_
  refine lv_iload_n hx hb dX12_make_161 rfl (lv_at hl 5 rfl) ?_
  obtain ⟨hi, hm⟩ := it_a hm
  refine g_ast C hw sM_20 hi dX12_make_162 (fun H locs hw => ?_)
  refine lv_aload_n hx hb dX12_make_163 rfl (lv_at hl 2 rfl) ?_
  refine g_get C hw gM_21 dX12_make_164 ?_
  refine lv_aload_n hx hb dX12_make_167 rfl (lv_at hl 2 rfl) ?_
  refine g_get C hw gM_22 dX12_make_168 ?_
  refine lv_iload hx hb dX12_make_171 (lv_at hl 0 rfl) ?_
  obtain ⟨hi, hm⟩ := it_a hm
  refine g_ast C hw sM_21 hi dX12_make_173 (fun H locs hw => ?_)
  refine lv_aload_n hx hb dX12_make_174 rfl (lv_at hl 2 rfl) ?_
  refine lv_dup hx hb dX12_make_175 rfl ?_
  refine g_get C hw gM_22 dX12_make_176 ?_
  refine lv_iconst (v := 1) hx hb dX12_make_179 ci_1 ?_
  refine lv_iadd hx hb dX12_make_180 ?_
  refine g_put C hw pM_22 dX12_make_181 (fun H locs hw => ?_)
  refine lv_iload hx hb dX12_make_184 (lv_at hl 6 rfl) ?_
  refine lv_iconst (v := 4) hx hb dX12_make_186 ci_4 ?_
  refine lv_icmp_ge (tgt := 194) hx hb dX12_make_187 (by decide) (fun hc => ?_) (fun hc => ?_)
  · have hm := it_t hc hm
    refine lv_aload_n hx hb dX12_make_194 rfl (lv_at hl 2 rfl) ?_
    refine g_get C hw gM_5 dX12_make_195 ?_
    refine lv_iload hx hb dX12_make_198 (lv_at hl 0 rfl) ?_
    obtain ⟨hi, hm⟩ := it_a hm
    refine g_ald C hw aM_5 hi dX12_make_200 ?_
    refine lv_istore (lv' := [(9, .int ((au (au (au (au ar128 18 (iv128 22).toNatClampNeg l1) 19 (iv128 22).toNatClampNeg l2) 20 (iv128 22).toNatClampNeg l3) 21 (iv128 22).toNatClampNeg r128) 5 r128.toNatClampNeg)), (8, .int r128), (7, .int s0), (0, .ref o), (1, .int l1), (2, .int l2), (3, .int l3), (5, .int l5)]) hx hb dX12_make_201 hl (by decide) rfl (fun ls hl => ?_)
    refine lv_bipush (v := 7) hx hb dX12_make_203 cb_7 ?_
    refine lv_istore (lv' := [(10, .int 7), (9, .int ((au (au (au (au ar128 18 (iv128 22).toNatClampNeg l1) 19 (iv128 22).toNatClampNeg l2) 20 (iv128 22).toNatClampNeg l3) 21 (iv128 22).toNatClampNeg r128) 5 r128.toNatClampNeg)), (8, .int r128), (7, .int s0), (0, .ref o), (1, .int l1), (2, .int l2), (3, .int l3), (5, .int l5)]) hx hb dX12_make_205 hl (by decide) rfl (fun ls hl => ?_)
    exact wX12_make_L207 C bigF _ _ _ _ _ _ _ _ _ _ _ _ hm _ _ _ (lv_sub hl [4, 5, 6, 7, 8, 2, 1, 0] rfl) hw
  · have hm := it_f hc hm
    refine lv_iconst (v := 0) hx hb dX12_make_190 ci_0 ?_
    refine lv_goto (tgt := 201) hx hb dX12_make_191 (by decide) ?_
    refine lv_istore (lv' := [(9, .int 0), (8, .int r128), (7, .int s0), (0, .ref o), (1, .int l1), (2, .int l2), (3, .int l3), (5, .int l5)]) hx hb dX12_make_201 hl (by decide) rfl (fun ls hl => ?_)
    refine lv_bipush (v := 7) hx hb dX12_make_203 cb_7 ?_
    refine lv_istore (lv' := [(10, .int 7), (9, .int 0), (8, .int r128), (7, .int s0), (0, .ref o), (1, .int l1), (2, .int l2), (3, .int l3), (5, .int l5)]) hx hb dX12_make_205 hl (by decide) rfl (fun ls hl => ?_)
    exact wX12_make_L207 C bigF _ _ _ _ _ _ _ _ _ _ _ _ hm _ _ _ (lv_sub hl [4, 5, 6, 7, 8, 2, 1, 0] rfl) hw
def mX12_make_J75 (l1 : Int32) (l2 : Int32) (l3 : Int32) (l5 : Int32) (s0 : Int32) (iv : mI) (ar : mA) : Option (Int32 × mI × mA) := if 5 ≤ l5 then if s0 = 0 then if l2 < 0 ∨ 400 ≤ l2.toNatClampNeg then none else if l3 < 0 ∨ 400 ≤ l3.toNatClampNeg then none else mX12_make_J121 l1 l2 l3 l5 ((ar 5 l2.toNatClampNeg) ||| (ar 5 l3.toNatClampNeg)) iv ar else if l2 < 0 ∨ 400 ≤ l2.toNatClampNeg then none else if l3 < 0 ∨ 400 ≤ l3.toNatClampNeg then none else mX12_make_J121 l1 l2 l3 l5 ((ar 5 l2.toNatClampNeg) &&& (ar 5 l3.toNatClampNeg)) iv ar else mX12_make_J121 l1 l2 l3 l5 0 iv ar
set_option maxRecDepth 100000 in
set_option maxHeartbeats 4000000 in
theorem wX12_make_J75 (C : mCx p s m args meth c RX12 cX12_make 14 (some .int) D cI cJ A) : ∀ (l1 : Int32) (l2 : Int32) (l3 : Int32) (l5 : Int32) (s0 : Int32) (iv : mI) (ar : mA) (rz : Int32) (ivz : mI) (arz : mA), mX12_make_J75 l1 l2 l3 l5 s0 iv ar = some (rz, ivz, arz) → ∀ (H : Heap) (locs : List Loc) (ls : Array Slot), lv_has ls 14 [(0, .ref o), (1, .int l1), (2, .int l2), (3, .int l3), (5, .int l5)] → inW D A s (wM cI o ad iv ar) H locs → W p l e (rmO 1 25) s m args below meth c H locs 0 0 (MQ below (ctQ D cI cJ (wM cI o ad ivz arz) A rz) args s 0 0 A) (F0 m 75 ls [.int s0]) := by
  intro l1 l2 l3 l5 s0 iv ar rz ivz arz hm H locs ls hl hw
  have hx := C.1.1
  have hb := C.1.2.1
  unfold mX12_make_J75 at hm
  refine lv_istore (lv' := [(6, .int s0), (0, .ref o), (1, .int l1), (2, .int l2), (3, .int l3), (5, .int l5)]) hx hb dX12_make_75 hl (by decide) rfl (fun ls hl => ?_)
  refine lv_iload hx hb dX12_make_77 (lv_at hl 5 rfl) ?_
  refine lv_iconst (v := 5) hx hb dX12_make_79 ci_5 ?_
  refine lv_icmp_ge (tgt := 87) hx hb dX12_make_80 (by decide) (fun hc => ?_) (fun hc => ?_)
  · have hm := it_t hc hm
    refine lv_iload hx hb dX12_make_87 (lv_at hl 0 rfl) ?_
    refine lv_if_eq (tgt := 108) hx hb dX12_make_89 (by decide) (fun hc => ?_) (fun hc => ?_)
    · have hm := it_t hc hm
      refine lv_aload_n hx hb dX12_make_108 rfl (lv_at hl 1 rfl) ?_
      refine g_get C hw gM_5 dX12_make_109 ?_
      refine lv_iload_n hx hb dX12_make_112 rfl (lv_at hl 3 rfl) ?_
      obtain ⟨hi, hm⟩ := it_a hm
      refine g_ald C hw aM_5 hi dX12_make_113 ?_
      refine lv_aload_n hx hb dX12_make_114 rfl (lv_at hl 1 rfl) ?_
      refine g_get C hw gM_5 dX12_make_115 ?_
      refine lv_iload_n hx hb dX12_make_118 rfl (lv_at hl 4 rfl) ?_
      obtain ⟨hi, hm⟩ := it_a hm
      refine g_ald C hw aM_5 hi dX12_make_119 ?_
      refine lv_ior hx hb dX12_make_120 ?_
      exact wX12_make_J121 C _ _ _ _ _ _ _ _ _ _ hm _ _ _ (lv_sub hl [1, 2, 3, 4, 5] rfl) hw
    · have hm := it_f hc hm
      refine lv_aload_n hx hb dX12_make_92 rfl (lv_at hl 1 rfl) ?_
      refine g_get C hw gM_5 dX12_make_93 ?_
      refine lv_iload_n hx hb dX12_make_96 rfl (lv_at hl 3 rfl) ?_
      obtain ⟨hi, hm⟩ := it_a hm
      refine g_ald C hw aM_5 hi dX12_make_97 ?_
      refine lv_aload_n hx hb dX12_make_98 rfl (lv_at hl 1 rfl) ?_
      refine g_get C hw gM_5 dX12_make_99 ?_
      refine lv_iload_n hx hb dX12_make_102 rfl (lv_at hl 4 rfl) ?_
      obtain ⟨hi, hm⟩ := it_a hm
      refine g_ald C hw aM_5 hi dX12_make_103 ?_
      refine lv_iand hx hb dX12_make_104 ?_
      refine lv_goto (tgt := 121) hx hb dX12_make_105 (by decide) ?_
      exact wX12_make_J121 C _ _ _ _ _ _ _ _ _ _ hm _ _ _ (lv_sub hl [1, 2, 3, 4, 5] rfl) hw
  · have hm := it_f hc hm
    refine lv_iconst (v := 0) hx hb dX12_make_83 ci_0 ?_
    refine lv_goto (tgt := 121) hx hb dX12_make_84 (by decide) ?_
    exact wX12_make_J121 C _ _ _ _ _ _ _ _ _ _ hm _ _ _ (lv_sub hl [1, 2, 3, 4, 5] rfl) hw
def mX12_make_J58 (l1 : Int32) (l2 : Int32) (l3 : Int32) (l5 : Int32) (s0 : Int32) (iv : mI) (ar : mA) : Option (Int32 × mI × mA) := if l1 = 0 then if s0 = 1 then mX12_make_J75 l1 l2 l3 l5 1 iv ar else mX12_make_J75 l1 l2 l3 l5 0 iv ar else if s0 = 0 then mX12_make_J75 l1 l2 l3 l5 1 iv ar else mX12_make_J75 l1 l2 l3 l5 0 iv ar
set_option maxRecDepth 100000 in
set_option maxHeartbeats 4000000 in
theorem wX12_make_J58 (C : mCx p s m args meth c RX12 cX12_make 14 (some .int) D cI cJ A) : ∀ (l1 : Int32) (l2 : Int32) (l3 : Int32) (l5 : Int32) (s0 : Int32) (iv : mI) (ar : mA) (rz : Int32) (ivz : mI) (arz : mA), mX12_make_J58 l1 l2 l3 l5 s0 iv ar = some (rz, ivz, arz) → ∀ (H : Heap) (locs : List Loc) (ls : Array Slot), lv_has ls 14 [(0, .ref o), (1, .int l1), (2, .int l2), (3, .int l3), (5, .int l5)] → inW D A s (wM cI o ad iv ar) H locs → W p l e (rmO 1 25) s m args below meth c H locs 0 0 (MQ below (ctQ D cI cJ (wM cI o ad ivz arz) A rz) args s 0 0 A) (F0 m 58 ls [.int s0]) := by
  intro l1 l2 l3 l5 s0 iv ar rz ivz arz hm H locs ls hl hw
  have hx := C.1.1
  have hb := C.1.2.1
  unfold mX12_make_J58 at hm
  refine lv_iload_n hx hb dX12_make_58 rfl (lv_at hl 1 rfl) ?_
  refine lv_if_ne (tgt := 66) hx hb dX12_make_59 (by decide) (fun hc => ?_) (fun hc => ?_)
  · have hm := it_f hc hm
    refine lv_iconst (v := 0) hx hb dX12_make_66 ci_0 ?_
    refine lv_icmp_ne (tgt := 74) hx hb dX12_make_67 (by decide) (fun hc => ?_) (fun hc => ?_)
    · have hm := it_f hc hm
      refine lv_iconst (v := 0) hx hb dX12_make_74 ci_0 ?_
      exact wX12_make_J75 C _ _ _ _ _ _ _ _ _ _ hm _ _ _ (lv_sub hl [0, 1, 2, 3, 4] rfl) hw
    · have hm := it_t hc hm
      refine lv_iconst (v := 1) hx hb dX12_make_70 ci_1 ?_
      refine lv_goto (tgt := 75) hx hb dX12_make_71 (by decide) ?_
      exact wX12_make_J75 C _ _ _ _ _ _ _ _ _ _ hm _ _ _ (lv_sub hl [0, 1, 2, 3, 4] rfl) hw
  · have hm := it_t hc hm
    refine lv_iconst (v := 1) hx hb dX12_make_62 ci_1 ?_
    refine lv_goto (tgt := 67) hx hb dX12_make_63 (by decide) ?_
    refine lv_icmp_ne (tgt := 74) hx hb dX12_make_67 (by decide) (fun hc => ?_) (fun hc => ?_)
    · have hm := it_f hc hm
      refine lv_iconst (v := 0) hx hb dX12_make_74 ci_0 ?_
      exact wX12_make_J75 C _ _ _ _ _ _ _ _ _ _ hm _ _ _ (lv_sub hl [0, 1, 2, 3, 4] rfl) hw
    · have hm := it_t hc hm
      refine lv_iconst (v := 1) hx hb dX12_make_70 ci_1 ?_
      refine lv_goto (tgt := 75) hx hb dX12_make_71 (by decide) ?_
      exact wX12_make_J75 C _ _ _ _ _ _ _ _ _ _ hm _ _ _ (lv_sub hl [0, 1, 2, 3, 4] rfl) hw
def mX12_make_J45 (l1 : Int32) (l2 : Int32) (l3 : Int32) (s0 : Int32) (iv : mI) (ar : mA) : Option (Int32 × mI × mA) := if s0 = 5 then mX12_make_J58 l1 l2 l3 s0 1 iv ar else mX12_make_J58 l1 l2 l3 s0 0 iv ar
set_option maxRecDepth 100000 in
set_option maxHeartbeats 4000000 in
theorem wX12_make_J45 (C : mCx p s m args meth c RX12 cX12_make 14 (some .int) D cI cJ A) : ∀ (l1 : Int32) (l2 : Int32) (l3 : Int32) (s0 : Int32) (iv : mI) (ar : mA) (rz : Int32) (ivz : mI) (arz : mA), mX12_make_J45 l1 l2 l3 s0 iv ar = some (rz, ivz, arz) → ∀ (H : Heap) (locs : List Loc) (ls : Array Slot), lv_has ls 14 [(0, .ref o), (1, .int l1), (2, .int l2), (3, .int l3)] → inW D A s (wM cI o ad iv ar) H locs → W p l e (rmO 1 25) s m args below meth c H locs 0 0 (MQ below (ctQ D cI cJ (wM cI o ad ivz arz) A rz) args s 0 0 A) (F0 m 45 ls [.int s0]) := by
  intro l1 l2 l3 s0 iv ar rz ivz arz hm H locs ls hl hw
  have hx := C.1.1
  have hb := C.1.2.1
  unfold mX12_make_J45 at hm
  refine lv_istore (lv' := [(5, .int s0), (0, .ref o), (1, .int l1), (2, .int l2), (3, .int l3)]) hx hb dX12_make_45 hl (by decide) rfl (fun ls hl => ?_)
  refine lv_iload hx hb dX12_make_47 (lv_at hl 0 rfl) ?_
  refine lv_iconst (v := 5) hx hb dX12_make_49 ci_5 ?_
  refine lv_icmp_ne (tgt := 57) hx hb dX12_make_50 (by decide) (fun hc => ?_) (fun hc => ?_)
  · have hm := it_f hc hm
    refine lv_iconst (v := 0) hx hb dX12_make_57 ci_0 ?_
    exact wX12_make_J58 C _ _ _ _ _ _ _ _ _ _ hm _ _ _ (lv_sub hl [1, 2, 3, 4, 0] rfl) hw
  · have hm := it_t hc hm
    refine lv_iconst (v := 1) hx hb dX12_make_53 ci_1 ?_
    refine lv_goto (tgt := 58) hx hb dX12_make_54 (by decide) ?_
    exact wX12_make_J58 C _ _ _ _ _ _ _ _ _ _ hm _ _ _ (lv_sub hl [1, 2, 3, 4, 0] rfl) hw
def mX12_make_J20 (l1 : Int32) (l2 : Int32) (l3 : Int32) (s0 : Int32) (iv : mI) (ar : mA) : Option (Int32 × mI × mA) := if s0 = 0 then if l1 = 0 then mX12_make_J45 l1 l2 l3 0 iv ar else mX12_make_J45 l1 l2 l3 1 iv ar else if l2 < 0 ∨ 400 ≤ l2.toNatClampNeg then none else mX12_make_J45 l1 l2 l3 (ar 4 l2.toNatClampNeg) iv ar
set_option maxRecDepth 100000 in
set_option maxHeartbeats 4000000 in
theorem wX12_make_J20 (C : mCx p s m args meth c RX12 cX12_make 14 (some .int) D cI cJ A) : ∀ (l1 : Int32) (l2 : Int32) (l3 : Int32) (s0 : Int32) (iv : mI) (ar : mA) (rz : Int32) (ivz : mI) (arz : mA), mX12_make_J20 l1 l2 l3 s0 iv ar = some (rz, ivz, arz) → ∀ (H : Heap) (locs : List Loc) (ls : Array Slot), lv_has ls 14 [(0, .ref o), (1, .int l1), (2, .int l2), (3, .int l3)] → inW D A s (wM cI o ad iv ar) H locs → W p l e (rmO 1 25) s m args below meth c H locs 0 0 (MQ below (ctQ D cI cJ (wM cI o ad ivz arz) A rz) args s 0 0 A) (F0 m 20 ls [.int s0]) := by
  intro l1 l2 l3 s0 iv ar rz ivz arz hm H locs ls hl hw
  have hx := C.1.1
  have hb := C.1.2.1
  unfold mX12_make_J20 at hm
  refine lv_istore (lv' := [(4, .int s0), (0, .ref o), (1, .int l1), (2, .int l2), (3, .int l3)]) hx hb dX12_make_20 hl (by decide) rfl (fun ls hl => ?_)
  refine lv_iload hx hb dX12_make_22 (lv_at hl 0 rfl) ?_
  refine lv_if_eq (tgt := 36) hx hb dX12_make_24 (by decide) (fun hc => ?_) (fun hc => ?_)
  · have hm := it_t hc hm
    refine lv_iload_n hx hb dX12_make_36 rfl (lv_at hl 2 rfl) ?_
    refine lv_if_ne (tgt := 44) hx hb dX12_make_37 (by decide) (fun hc => ?_) (fun hc => ?_)
    · have hm := it_f hc hm
      refine lv_iconst (v := 1) hx hb dX12_make_44 ci_1 ?_
      exact wX12_make_J45 C _ _ _ _ _ _ _ _ _ hm _ _ _ (lv_sub hl [1, 2, 3, 4] rfl) hw
    · have hm := it_t hc hm
      refine lv_iconst (v := 0) hx hb dX12_make_40 ci_0 ?_
      refine lv_goto (tgt := 45) hx hb dX12_make_41 (by decide) ?_
      exact wX12_make_J45 C _ _ _ _ _ _ _ _ _ hm _ _ _ (lv_sub hl [1, 2, 3, 4] rfl) hw
  · have hm := it_f hc hm
    refine lv_aload_n hx hb dX12_make_27 rfl (lv_at hl 1 rfl) ?_
    refine g_get C hw gM_4 dX12_make_28 ?_
    refine lv_iload_n hx hb dX12_make_31 rfl (lv_at hl 3 rfl) ?_
    obtain ⟨hi, hm⟩ := it_a hm
    refine g_ald C hw aM_4 hi dX12_make_32 ?_
    refine lv_goto (tgt := 45) hx hb dX12_make_33 (by decide) ?_
    exact wX12_make_J45 C _ _ _ _ _ _ _ _ _ hm _ _ _ (lv_sub hl [1, 2, 3, 4] rfl) hw
def mX12_make (a1 : Int32) (a2 : Int32) (a3 : Int32) (iv : mI) (ar : mA) : Option (Int32 × mI × mA) := if a2 < 0 ∨ 400 ≤ a2.toNatClampNeg then none else if a3 < 0 ∨ 400 ≤ a3.toNatClampNeg then none else if (ar 4 a2.toNatClampNeg) = (ar 4 a3.toNatClampNeg) then mX12_make_J20 a1 a2 a3 1 iv ar else mX12_make_J20 a1 a2 a3 0 iv ar
set_option maxRecDepth 100000 in
set_option maxHeartbeats 4000000 in
theorem kX12_make {a1 a2 a3 : Int32} {iv ivz : mI} {ar arz : mA} {rz : Int32} (hm : mX12_make a1 a2 a3 iv ar = some (rz, ivz, arz)) : Ct l D cI cJ yX12_make cX12_make 14 (some .int) 1 25 [.ref o, .int a1, .int a2, .int a3] (wM cI o ad iv ar) (wM cI o ad ivz arz) rz := by
  intro sz
  refine ct_of (by decide) (Nat.le_of_ble_eq_true rfl) ?_
  intro p e s m args below meth c C hw ls hl
  have hl : lv_has ls 14 [(0, .ref o), (1, .int a1), (2, .int a2), (3, .int a3)] := hl
  have hx := C.1.1
  have hb := C.1.2.1
  unfold mX12_make at hm
  refine lv_aload_n hx hb dX12_make_0 rfl (lv_at hl 0 rfl) ?_
  refine g_get C hw gM_4 dX12_make_1 ?_
  refine lv_iload_n hx hb dX12_make_4 rfl (lv_at hl 2 rfl) ?_
  obtain ⟨hi, hm⟩ := it_a hm
  refine g_ald C hw aM_4 hi dX12_make_5 ?_
  refine lv_aload_n hx hb dX12_make_6 rfl (lv_at hl 0 rfl) ?_
  refine g_get C hw gM_4 dX12_make_7 ?_
  refine lv_iload_n hx hb dX12_make_10 rfl (lv_at hl 3 rfl) ?_
  obtain ⟨hi, hm⟩ := it_a hm
  refine g_ald C hw aM_4 hi dX12_make_11 ?_
  refine lv_icmp_ne (tgt := 19) hx hb dX12_make_12 (by decide) (fun hc => ?_) (fun hc => ?_)
  · have hm := it_f hc hm
    refine lv_iconst (v := 0) hx hb dX12_make_19 ci_0 ?_
    exact wX12_make_J20 C _ _ _ _ _ _ _ _ _ hm _ _ _ (lv_sub hl [0, 1, 2, 3] rfl) hw
  · have hm := it_t hc hm
    refine lv_iconst (v := 1) hx hb dX12_make_15 ci_1 ?_
    refine lv_goto (tgt := 20) hx hb dX12_make_16 (by decide) ?_
    exact wX12_make_J20 C _ _ _ _ _ _ _ _ _ hm _ _ _ (lv_sub hl [0, 1, 2, 3] rfl) hw
end
