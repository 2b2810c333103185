section
variable {l : Launch} {p : Program} {e : Env} {s : State} {m : MethodId} {args : Array Value} {below : List Frame} {meth : Method} {c : Code} {D : va_G} {cI cJ : ClassId} {A : Nat → Prop} {o : Nat} {ad : Nat → Nat}
def mX12_in (a0 : Int32) (a1 : Int32) (a2 : Int32) (iv : mI) (ar : mA) : Option (Int32 × mI × mA) := if a0 < a1 then some (0, iv, ar) else if a2 < a0 then some (0, iv, ar) else some (1, iv, ar)
set_option maxRecDepth 100000 in
set_option maxHeartbeats 4000000 in
theorem kX12_in {a0 a1 a2 : Int32} {iv ivz : mI} {ar arz : mA} {rz : Int32} (hm : mX12_in a0 a1 a2 iv ar = some (rz, ivz, arz)) : Ct l D cI cJ yX12_in cX12_in 3 (some .boolean) 0 0 [.int a0, .int a1, .int a2] (wM cI o ad iv ar) (wM cI o ad ivz arz) rz := by
  intro sz
  refine ct_of (by decide) (Nat.le_of_ble_eq_true rfl) ?_
  intro p e s m args below meth c C hw ls hl
  have hl : lv_has ls 3 [(0, .int a0), (1, .int a1), (2, .int a2)] := hl
  have hx := C.1.1
  have hb := C.1.2.1
  unfold mX12_in at hm
  refine lv_iload_n hx hb dX12_in_0 rfl (lv_at hl 0 rfl) ?_
  refine lv_iload_n hx hb dX12_in_1 rfl (lv_at hl 1 rfl) ?_
  refine lv_icmp_lt (tgt := 14) hx hb dX12_in_2 (by decide) (fun hc => ?_) (fun hc => ?_)
  · have hm := it_t hc hm
    refine lv_iconst (v := 0) hx hb dX12_in_14 ci_0 ?_
    cases hm
    exact g_zret C hw (Or.inl rfl) dX12_in_15
  · have hm := it_f hc hm
    refine lv_iload_n hx hb dX12_in_5 rfl (lv_at hl 0 rfl) ?_
    refine lv_iload_n hx hb dX12_in_6 rfl (lv_at hl 2 rfl) ?_
    refine lv_icmp_gt (tgt := 14) hx hb dX12_in_7 (by decide) (fun hc => ?_) (fun hc => ?_)
    · have hm := it_t hc hm
      refine lv_iconst (v := 0) hx hb dX12_in_14 ci_0 ?_
      cases hm
      exact g_zret C hw (Or.inl rfl) dX12_in_15
    · have hm := it_f hc hm
      refine lv_iconst (v := 1) hx hb dX12_in_10 ci_1 ?_
      refine lv_goto (tgt := 15) hx hb dX12_in_11 (by decide) ?_
      cases hm
      exact g_zret C hw (Or.inr rfl) dX12_in_15
def mX12_isNode (a1 : Int32) (iv : mI) (ar : mA) : Option (Int32 × mI × mA) := ob (mX12_in a1 0 ((iv 3) - 1) iv ar) (fun r8 iv8 ar8 => if r8 = 0 ∨ r8 = 1 then some (r8, iv8, ar8) else none)
set_option maxRecDepth 100000 in
set_option maxHeartbeats 4000000 in
theorem kX12_isNode {a1 : Int32} {iv ivz : mI} {ar arz : mA} {rz : Int32} (hm : mX12_isNode a1 iv ar = some (rz, ivz, arz)) : Ct l D cI cJ yX12_isNode cX12_isNode 2 (some .boolean) 1 22 [.ref o, .int a1] (wM cI o ad iv ar) (wM cI o ad ivz arz) rz := by
  intro sz
  refine ct_of (by decide) (Nat.le_of_ble_eq_true rfl) ?_
  intro p e s m args below meth c C hw ls hl
  have hl : lv_has ls 2 [(0, .ref o), (1, .int a1)] := hl
  have hx := C.1.1
  have hb := C.1.2.1
  unfold mX12_isNode at hm
  refine lv_iload_n hx hb dX12_isNode_0 rfl (lv_at hl 1 rfl) ?_
  refine lv_iconst (v := 0) hx hb dX12_isNode_1 ci_0 ?_
  refine lv_aload_n hx hb dX12_isNode_2 rfl (lv_at hl 0 rfl) ?_
  refine g_get C hw gM_3 dX12_isNode_3 ?_
  refine lv_iconst (v := 1) hx hb dX12_isNode_6 ci_1 ?_
  refine lv_isub hx hb dX12_isNode_7 ?_
  obtain ⟨r8, iv8, ar8, hc8, hm⟩ := ob_some hm
  refine g_calls (As := [.int a1, .int 0, .int ((iv 3) - 1)]) (rest := []) C hw (kX12_in hc8) stX12_in lkX12_184 hl.1 rfl rfl (Nat.le_of_ble_eq_true rfl) ⟨Nat.le_of_ble_eq_true rfl, Nat.le_of_ble_eq_true rfl⟩ dX12_isNode_8 ⟨Nat.zero_le _, Nat.zero_le _⟩ (fun H locs hw => ?_)
  obtain ⟨hz, hm⟩ := it_z hm
  cases hm
  exact g_zret C hw hz dX12_isNode_11
def mX12_clear  (iv : mI) (ar : mA) : Option (Int32 × mI × mA) := some ((iv 3), va_up (va_up (va_up (va_up iv 3 0) 30 0) 56 0) 57 0, ar)
set_option maxRecDepth 100000 in
set_option maxHeartbeats 4000000 in
theorem kX12_clear {iv ivz : mI} {ar arz : mA} {rz : Int32} (hm : mX12_clear iv ar = some (rz, ivz, arz)) : Ct l D cI cJ yX12_clear cX12_clear 2 (some .int) 0 0 [.ref o] (wM cI o ad iv ar) (wM cI o ad ivz arz) rz := by
  intro sz
  refine ct_of (by decide) (Nat.le_of_ble_eq_true rfl) ?_
  intro p e s m args below meth c C hw ls hl
  have hl : lv_has ls 2 [(0, .ref o)] := hl
  have hx := C.1.1
  have hb := C.1.2.1
  unfold mX12_clear at hm
  refine lv_aload_n hx hb dX12_clear_0 rfl (lv_at hl 0 rfl) ?_
  refine g_get C hw gM_3 dX12_clear_1 ?_
  refine lv_istore_n (lv' := [(1, .int (iv 3)), (0, .ref o)]) hx hb dX12_clear_4 rfl hl (by decide) rfl (fun ls hl => ?_)
  refine lv_aload_n hx hb dX12_clear_5 rfl (lv_at hl 1 rfl) ?_
  refine lv_iconst (v := 0) hx hb dX12_clear_6 ci_0 ?_
  refine g_put C hw pM_3 dX12_clear_7 (fun H locs hw => ?_)
  refine lv_aload_n hx hb dX12_clear_10 rfl (lv_at hl 1 rfl) ?_
  refine lv_iconst (v := 0) hx hb dX12_clear_11 ci_0 ?_
  refine g_put C hw pM_30_0 dX12_clear_12 (fun H locs hw => ?_)
  refine lv_aload_n hx hb dX12_clear_15 rfl (lv_at hl 1 rfl) ?_
  refine lv_iconst (v := 0) hx hb dX12_clear_16 ci_0 ?_
  refine g_put C hw pM_56 dX12_clear_17 (fun H locs hw => ?_)
  refine lv_aload_n hx hb dX12_clear_20 rfl (lv_at hl 1 rfl) ?_
  refine lv_iconst (v := 0) hx hb dX12_clear_21 ci_0 ?_
  refine g_put C hw pM_57 dX12_clear_22 (fun H locs hw => ?_)
  refine lv_iload_n hx hb dX12_clear_25 rfl (lv_at hl 0 rfl) ?_
  cases hm
  exact g_iret C hw dX12_clear_26
def mX12_feed (a1 : Int32) (iv : mI) (ar : mA) : Option (Int32 × mI × mA) := if (iv 0) = 200 then some ((-3), iv, ar) else if (iv 0) < 0 ∨ 200 ≤ (iv 0).toNatClampNeg then none else some (((va_up iv 0 ((iv 0) + 1)) 0), va_up iv 0 ((iv 0) + 1), au ar 1 (iv 0).toNatClampNeg a1)
set_option maxRecDepth 100000 in
set_option maxHeartbeats 4000000 in
theorem kX12_feed {a1 : Int32} {iv ivz : mI} {ar arz : mA} {rz : Int32} (hm : mX12_feed a1 iv ar = some (rz, ivz, arz)) : Ct l D cI cJ yX12_feed cX12_feed 2 (some .int) 0 0 [.ref o, .int a1] (wM cI o ad iv ar) (wM cI o ad ivz arz) rz := by
  intro sz
  refine ct_of (by decide) (Nat.le_of_ble_eq_true rfl) ?_
  intro p e s m args below meth c C hw ls hl
  have hl : lv_has ls 2 [(0, .ref o), (1, .int a1)] := hl
  have hx := C.1.1
  have hb := C.1.2.1
  unfold mX12_feed at hm
  refine lv_aload_n hx hb dX12_feed_0 rfl (lv_at hl 0 rfl) ?_
  refine g_get C hw gM_0 dX12_feed_1 ?_
  refine lv_sipush (v := 200) hx hb dX12_feed_4 cs_200 ?_
  refine lv_icmp_ne (tgt := 13) hx hb dX12_feed_7 (by decide) (fun hc => ?_) (fun hc => ?_)
  · have hm := it_f hc hm
    refine lv_aload_n hx hb dX12_feed_13 rfl (lv_at hl 0 rfl) ?_
    refine g_get C hw gM_1 dX12_feed_14 ?_
    refine lv_aload_n hx hb dX12_feed_17 rfl (lv_at hl 0 rfl) ?_
    refine g_get C hw gM_0 dX12_feed_18 ?_
    refine lv_iload_n hx hb dX12_feed_21 rfl (lv_at hl 1 rfl) ?_
    obtain ⟨hi, hm⟩ := it_a hm
    refine g_ast C hw sM_1 hi dX12_feed_22 (fun H locs hw => ?_)
    refine lv_aload_n hx hb dX12_feed_23 rfl (lv_at hl 0 rfl) ?_
    refine lv_dup hx hb dX12_feed_24 rfl ?_
    refine g_get C hw gM_0 dX12_feed_25 ?_
    refine lv_iconst (v := 1) hx hb dX12_feed_28 ci_1 ?_
    refine lv_iadd hx hb dX12_feed_29 ?_
    refine g_put C hw pM_0 dX12_feed_30 (fun H locs hw => ?_)
    refine lv_aload_n hx hb dX12_feed_33 rfl (lv_at hl 0 rfl) ?_
    refine g_get C hw gM_0 dX12_feed_34 ?_
    cases hm
    exact g_iret C hw dX12_feed_37
  · have hm := it_t hc hm
    refine lv_bipush (v := (-3)) hx hb dX12_feed_10 cb_m3 ?_
    cases hm
    exact g_iret C hw dX12_feed_12
def mX12_newNode_L31 : Nat → Int32 → mI → mA → Option (Int32 × mI × mA)
  | 0, _, _, _ => none
  | n + 1, l3, iv, ar => if 8 ≤ l3 then some ((((va_up iv 3 ((iv 3) + 1)) 3) - 1), va_up iv 3 ((iv 3) + 1), ar) else if ((8 * (iv 3)) + l3) < 0 ∨ 3200 ≤ ((8 * (iv 3)) + l3).toNatClampNeg then none else mX12_newNode_L31 n (l3 + 1) iv (au ar 6 ((8 * (iv 3)) + l3).toNatClampNeg (-1))
set_option maxRecDepth 100000 in
set_option maxHeartbeats 4000000 in
theorem wX12_newNode_L31 (C : mCx p s m args meth c RX12 cX12_newNode 4 (some .int) D cI cJ A) (n : Nat) : ∀ (l3 : Int32) (iv : mI) (ar : mA) (rz : Int32) (ivz : mI) (arz : mA), mX12_newNode_L31 n l3 iv ar = some (rz, ivz, arz) → ∀ (H : Heap) (locs : List Loc) (ls : Array Slot), lv_has ls 4 [(0, .ref o), (3, .int l3)] → inW D A s (wM cI o ad iv ar) H locs → W p l e (rmO 0 0) s m args below meth c H locs 0 0 (MQ below (ctQ D cI cJ (wM cI o ad ivz arz) A rz) args s 0 0 A) (F0 m 31 ls []) := by
  induction n with
  | zero =>
    intro l3 iv ar rz ivz arz hm H locs ls hl hw
    have hm : (none : Option (Int32 × mI × mA)) = some _ := hm
    cases hm
  | succ n ih =>
    intro l3 iv ar rz ivz arz hm H locs ls hl hw
    have hx := C.1.1
    have hb := C.1.2.1
    unfold mX12_newNode_L31 at hm
    refine lv_iload_n hx hb dX12_newNode_31 rfl (lv_at hl 1 rfl) ?_
    refine lv_bipush (v := 8) hx hb dX12_newNode_32 cb_8 ?_
    refine lv_icmp_ge (tgt := 58) hx hb dX12_newNode_34 (by decide) (fun hc => ?_) (fun hc => ?_)
    · have hm := it_t hc hm
      refine lv_aload_n hx hb dX12_newNode_58 rfl (lv_at hl 0 rfl) ?_
      refine lv_dup hx hb dX12_newNode_59 rfl ?_
      refine g_get C hw gM_3 dX12_newNode_60 ?_
      refine lv_iconst (v := 1) hx hb dX12_newNode_63 ci_1 ?_
      refine lv_iadd hx hb dX12_newNode_64 ?_
      refine g_put C hw pM_3 dX12_newNode_65 (fun H locs hw => ?_)
      refine lv_aload_n hx hb dX12_newNode_68 rfl (lv_at hl 0 rfl) ?_
      refine g_get C hw gM_3 dX12_newNode_69 ?_
      refine lv_iconst (v := 1) hx hb dX12_newNode_72 ci_1 ?_
      refine lv_isub hx hb dX12_newNode_73 ?_
      cases hm
      exact g_iret C hw dX12_newNode_74
    · have hm := it_f hc hm
      refine lv_aload_n hx hb dX12_newNode_37 rfl (lv_at hl 0 rfl) ?_
      refine g_get C hw gM_6 dX12_newNode_38 ?_
      refine lv_bipush (v := 8) hx hb dX12_newNode_41 cb_8 ?_
      refine lv_aload_n hx hb dX12_newNode_43 rfl (lv_at hl 0 rfl) ?_
      refine g_get C hw gM_3 dX12_newNode_44 ?_
      refine lv_imul hx hb dX12_newNode_47 ?_
      refine lv_iload_n hx hb dX12_newNode_48 rfl (lv_at hl 1 rfl) ?_
      refine lv_iadd hx hb dX12_newNode_49 ?_
      refine lv_iconst (v := (-1)) hx hb dX12_newNode_50 ci_m1 ?_
      obtain ⟨hi, hm⟩ := it_a hm
      refine g_ast C hw sM_6 hi dX12_newNode_51 (fun H locs hw => ?_)
      refine lv_iinc (v := (l3 + 1)) (lv' := [(3, .int (l3 + 1)), (0, .ref o)]) hx hb dX12_newNode_52 hl (k := 1) rfl (ii_ ci_1) (by decide) rfl (fun ls hl => ?_)
      refine lv_goto (tgt := 31) hx hb dX12_newNode_55 (by decide) ?_
      exact ih _ _ _ _ _ _ hm _ _ _ (lv_sub hl [1, 0] rfl) hw
def mX12_newNode (a1 : Int32) (a2 : Int32) (iv : mI) (ar : mA) : Option (Int32 × mI × mA) := if (iv 3) < 0 ∨ 400 ≤ (iv 3).toNatClampNeg then none else if a1 = 4 then if (iv 3) < 0 ∨ 400 ≤ (iv 3).toNatClampNeg then none else mX12_newNode_L31 bigF 0 iv (au (au ar 4 (iv 3).toNatClampNeg a1) 5 (iv 3).toNatClampNeg 3) else if (iv 3) < 0 ∨ 400 ≤ (iv 3).toNatClampNeg then none else mX12_newNode_L31 bigF 0 iv (au (au ar 4 (iv 3).toNatClampNeg a1) 5 (iv 3).toNatClampNeg a2)
set_option maxRecDepth 100000 in
set_option maxHeartbeats 4000000 in
theorem kX12_newNode {a1 a2 : Int32} {iv ivz : mI} {ar arz : mA} {rz : Int32} (hm : mX12_newNode a1 a2 iv ar = some (rz, ivz, arz)) : Ct l D cI cJ yX12_newNode cX12_newNode 4 (some .int) 0 0 [.ref o, .int a1, .int a2] (wM cI o ad iv ar) (wM cI o ad ivz arz) rz := by
  intro sz
  refine ct_of (by decide) (Nat.le_of_ble_eq_true rfl) ?_
  intro p e s m args below meth c C hw ls hl
  have hl : lv_has ls 4 [(0, .ref o), (1, .int a1), (2, .int a2)] := hl
  have hx := C.1.1
  have hb := C.1.2.1
  unfold mX12_newNode at hm
  refine lv_aload_n hx hb dX12_newNode_0 rfl (lv_at hl 0 rfl) ?_
  refine g_get C hw gM_4 dX12_newNode_1 ?_
  refine lv_aload_n hx hb dX12_newNode_4 rfl (lv_at hl 0 rfl) ?_
  refine g_get C hw gM_3 dX12_newNode_5 ?_
  refine lv_iload_n hx hb dX12_newNode_8 rfl (lv_at hl 1 rfl) ?_
  obtain ⟨hi, hm⟩ := it_a hm
  refine g_ast C hw sM_4 hi dX12_newNode_9 (fun H locs hw => ?_)
  refine lv_aload_n hx hb dX12_newNode_10 rfl (lv_at hl 0 rfl) ?_
  refine g_get C hw gM_5 dX12_newNode_11 ?_
  refine lv_aload_n hx hb dX12_newNode_14 rfl (lv_at hl 0 rfl) ?_
  refine g_get C hw gM_3 dX12_newNode_15 ?_
  refine lv_iload_n hx hb dX12_newNode_18 rfl (lv_at hl 1 rfl) ?_
  refine lv_iconst (v := 4) hx hb dX12_newNode_19 ci_4 ?_
  refine lv_icmp_ne (tgt := 27) hx hb dX12_newNode_20 (by decide) (fun hc => ?_) (fun hc => ?_)
  · have hm := it_f hc hm
    refine lv_iload_n hx hb dX12_newNode_27 rfl (lv_at hl 2 rfl) ?_
    obtain ⟨hi, hm⟩ := it_a hm
    refine g_ast C hw sM_5 hi dX12_newNode_28 (fun H locs hw => ?_)
    refine lv_iconst (v := 0) hx hb dX12_newNode_29 ci_0 ?_
    refine lv_istore_n (lv' := [(3, .int 0), (0, .ref o), (1, .int a1), (2, .int a2)]) hx hb dX12_newNode_30 rfl hl (by decide) rfl (fun ls hl => ?_)
    exact wX12_newNode_L31 C bigF _ _ _ _ _ _ hm _ _ _ (lv_sub hl [1, 0] rfl) hw
  · have hm := it_t hc hm
    refine lv_iconst (v := 3) hx hb dX12_newNode_23 ci_3 ?_
    refine lv_goto (tgt := 28) hx hb dX12_newNode_24 (by decide) ?_
    obtain ⟨hi, hm⟩ := it_a hm
    refine g_ast C hw sM_5 hi dX12_newNode_28 (fun H locs hw => ?_)
    refine lv_iconst (v := 0) hx hb dX12_newNode_29 ci_0 ?_
    refine lv_istore_n (lv' := [(3, .int 0), (0, .ref o), (1, .int a1), (2, .int a2)]) hx hb dX12_newNode_30 rfl hl (by decide) rfl (fun ls hl => ?_)
    exact wX12_newNode_L31 C bigF _ _ _ _ _ _ hm _ _ _ (lv_sub hl [1, 0] rfl) hw
def mX12_part (a1 : Int32) (a2 : Int32) (iv : mI) (ar : mA) : Option (Int32 × mI × mA) := if ((8 * a1) + a2) < 0 ∨ 3200 ≤ ((8 * a1) + a2).toNatClampNeg then none else some ((ar 6 ((8 * a1) + a2).toNatClampNeg), iv, ar)
set_option maxRecDepth 100000 in
set_option maxHeartbeats 4000000 in
theorem kX12_part {a1 a2 : Int32} {iv ivz : mI} {ar arz : mA} {rz : Int32} (hm : mX12_part a1 a2 iv ar = some (rz, ivz, arz)) : Ct l D cI cJ yX12_part cX12_part 3 (some .int) 0 0 [.ref o, .int a1, .int a2] (wM cI o ad iv ar) (wM cI o ad ivz arz) rz := by
  intro sz
  refine ct_of (by decide) (Nat.le_of_ble_eq_true rfl) ?_
  intro p e s m args below meth c C hw ls hl
  have hl : lv_has ls 3 [(0, .ref o), (1, .int a1), (2, .int a2)] := hl
  have hx := C.1.1
  have hb := C.1.2.1
  unfold mX12_part at hm
  refine lv_aload_n hx hb dX12_part_0 rfl (lv_at hl 0 rfl) ?_
  refine g_get C hw gM_6 dX12_part_1 ?_
  refine lv_bipush (v := 8) hx hb dX12_part_4 cb_8 ?_
  refine lv_iload_n hx hb dX12_part_6 rfl (lv_at hl 1 rfl) ?_
  refine lv_imul hx hb dX12_part_7 ?_
  refine lv_iload_n hx hb dX12_part_8 rfl (lv_at hl 2 rfl) ?_
  refine lv_iadd hx hb dX12_part_9 ?_
  obtain ⟨hi, hm⟩ := it_a hm
  refine g_ald C hw aM_6 hi dX12_part_10 ?_
  cases hm
  exact g_iret C hw dX12_part_11
def mX12_fail (a1 : Int32) (a2 : Int32) (iv : mI) (ar : mA) : Option (Int32 × mI × mA) := some (a1, va_up (va_up iv 24 a1) 2 a2, ar)
set_option maxRecDepth 100000 in
set_option maxHeartbeats 4000000 in
theorem kX12_fail {a1 a2 : Int32} {iv ivz : mI} {ar arz : mA} {rz : Int32} (hm : mX12_fail a1 a2 iv ar = some (rz, ivz, arz)) : Ct l D cI cJ yX12_fail cX12_fail 3 (some .int) 0 0 [.ref o, .int a1, .int a2] (wM cI o ad iv ar) (wM cI o ad ivz arz) rz := by
  intro sz
  refine ct_of (by decide) (Nat.le_of_ble_eq_true rfl) ?_
  intro p e s m args below meth c C hw ls hl
  have hl : lv_has ls 3 [(0, .ref o), (1, .int a1), (2, .int a2)] := hl
  have hx := C.1.1
  have hb := C.1.2.1
  unfold mX12_fail at hm
  refine lv_aload_n hx hb dX12_fail_0 rfl (lv_at hl 0 rfl) ?_
  refine lv_iload_n hx hb dX12_fail_1 rfl (lv_at hl 1 rfl) ?_
  refine g_put C hw pM_24 dX12_fail_2 (fun H locs hw => ?_)
  refine lv_aload_n hx hb dX12_fail_5 rfl (lv_at hl 0 rfl) ?_
  refine lv_iload_n hx hb dX12_fail_6 rfl (lv_at hl 2 rfl) ?_
  refine g_put C hw pM_2 dX12_fail_7 (fun H locs hw => ?_)
  refine lv_iload_n hx hb dX12_fail_10 rfl (lv_at hl 1 rfl) ?_
  cases hm
  exact g_iret C hw dX12_fail_11
def mX12_take (a1 : Int32) (a2 : Int32) (iv : mI) (ar : mA) : Option (Int32 × mI × mA) := if (iv 24) = 0 then if (iv 23) = (iv 0) then ob (mX12_fail (-12) (iv 23) iv ar) (fun r27 iv27 ar27 => some (r27, iv27, ar27)) else if (iv 23) < 0 ∨ 200 ≤ (iv 23).toNatClampNeg then none else ob (mX12_in (ar 1 (iv 23).toNatClampNeg) a1 a2 iv ar) (fun r42 iv42 ar42 => if r42 = 0 then ob (mX12_fail (-11) (iv42 23) iv42 ar42) (fun r55 iv55 ar55 => some (r55, iv55, ar55)) else if (((va_up iv42 23 ((iv42 23) + 1)) 23) - 1) < 0 ∨ 200 ≤ (((va_up iv42 23 ((iv42 23) + 1)) 23) - 1).toNatClampNeg then none else some ((ar42 1 (((va_up iv42 23 ((iv42 23) + 1)) 23) - 1).toNatClampNeg), va_up iv42 23 ((iv42 23) + 1), ar42)) else some ((-1), iv, ar)
set_option maxRecDepth 100000 in
set_option maxHeartbeats 4000000 in
theorem kX12_take {a1 a2 : Int32} {iv ivz : mI} {ar arz : mA} {rz : Int32} (hm : mX12_take a1 a2 iv ar = some (rz, ivz, arz)) : Ct l D cI cJ yX12_take cX12_take 3 (some .int) 1 22 [.ref o, .int a1, .int a2] (wM cI o ad iv ar) (wM cI o ad ivz arz) rz := by
  intro sz
  refine ct_of (by decide) (Nat.le_of_ble_eq_true rfl) ?_
  intro p e s m args below meth c C hw ls hl
  have hl : lv_has ls 3 [(0, .ref o), (1, .int a1), (2, .int a2)] := hl
  have hx := C.1.1
  have hb := C.1.2.1
  unfold mX12_take at hm
  refine lv_aload_n hx hb dX12_take_0 rfl (lv_at hl 0 rfl) ?_
  refine g_get C hw gM_24 dX12_take_1 ?_
  refine lv_if_eq (tgt := 9) hx hb dX12_take_4 (by decide) (fun hc => ?_) (fun hc => ?_)
  · have hm := it_t hc hm
    refine lv_aload_n hx hb dX12_take_9 rfl (lv_at hl 0 rfl) ?_
    refine g_get C hw gM_23 dX12_take_10 ?_
    refine lv_aload_n hx hb dX12_take_13 rfl (lv_at hl 0 rfl) ?_
    refine g_get C hw gM_0 dX12_take_14 ?_
    refine lv_icmp_ne (tgt := 31) hx hb dX12_take_17 (by decide) (fun hc => ?_) (fun hc => ?_)
    · have hm := it_f hc hm
      refine lv_aload_n hx hb dX12_take_31 rfl (lv_at hl 0 rfl) ?_
      refine g_get C hw gM_1 dX12_take_32 ?_
      refine lv_aload_n hx hb dX12_take_35 rfl (lv_at hl 0 rfl) ?_
      refine g_get C hw gM_23 dX12_take_36 ?_
      obtain ⟨hi, hm⟩ := it_a hm
      refine g_ald C hw aM_1 hi dX12_take_39 ?_
      refine lv_iload_n hx hb dX12_take_40 rfl (lv_at hl 1 rfl) ?_
      refine lv_iload_n hx hb dX12_take_41 rfl (lv_at hl 2 rfl) ?_
      obtain ⟨r42, iv42, ar42, hc42, hm⟩ := ob_some hm
      refine g_calls (As := [.int (ar 1 (iv 23).toNatClampNeg), .int a1, .int a2]) (rest := []) C hw (kX12_in hc42) stX12_in lkX12_184 hl.1 rfl rfl (Nat.le_of_ble_eq_true rfl) ⟨Nat.le_of_ble_eq_true rfl, Nat.le_of_ble_eq_true rfl⟩ dX12_take_42 ⟨Nat.zero_le _, Nat.zero_le _⟩ (fun H locs hw => ?_)
      refine lv_if_ne (tgt := 59) hx hb dX12_take_45 (by decide) (fun hc => ?_) (fun hc => ?_)
      · have hm := it_f hc hm
        refine lv_aload_n hx hb dX12_take_59 rfl (lv_at hl 0 rfl) ?_
        refine lv_dup hx hb dX12_take_60 rfl ?_
        refine g_get C hw gM_23 dX12_take_61 ?_
        refine lv_iconst (v := 1) hx hb dX12_take_64 ci_1 ?_
        refine lv_iadd hx hb dX12_take_65 ?_
        refine g_put C hw pM_23 dX12_take_66 (fun H locs hw => ?_)
        refine lv_aload_n hx hb dX12_take_69 rfl (lv_at hl 0 rfl) ?_
        refine g_get C hw gM_1 dX12_take_70 ?_
        refine lv_aload_n hx hb dX12_take_73 rfl (lv_at hl 0 rfl) ?_
        refine g_get C hw gM_23 dX12_take_74 ?_
        refine lv_iconst (v := 1) hx hb dX12_take_77 ci_1 ?_
        refine lv_isub hx hb dX12_take_78 ?_
        obtain ⟨hi, hm⟩ := it_a hm
        refine g_ald C hw aM_1 hi dX12_take_79 ?_
        cases hm
        exact g_iret C hw dX12_take_80
      · have hm := it_t hc hm
        refine lv_aload_n hx hb dX12_take_48 rfl (lv_at hl 0 rfl) ?_
        refine lv_bipush (v := (-11)) hx hb dX12_take_49 cb_m11 ?_
        refine lv_aload_n hx hb dX12_take_51 rfl (lv_at hl 0 rfl) ?_
        refine g_get C hw gM_23 dX12_take_52 ?_
        obtain ⟨r55, iv55, ar55, hc55, hm⟩ := ob_some hm
        refine g_calli (As := [.int (-11), .int (iv42 23)]) (rest := []) C hw (kX12_fail hc55) mtX12_fail lkX12_207 oM hl.1 rfl rfl (Nat.le_of_ble_eq_true rfl) ⟨Nat.le_of_ble_eq_true rfl, Nat.le_of_ble_eq_true rfl⟩ dX12_take_55 ⟨Nat.zero_le _, Nat.zero_le _⟩ (fun H locs hw => ?_)
        cases hm
        exact g_iret C hw dX12_take_58
    · have hm := it_t hc hm
      refine lv_aload_n hx hb dX12_take_20 rfl (lv_at hl 0 rfl) ?_
      refine lv_bipush (v := (-12)) hx hb dX12_take_21 cb_m12 ?_
      refine lv_aload_n hx hb dX12_take_23 rfl (lv_at hl 0 rfl) ?_
      refine g_get C hw gM_23 dX12_take_24 ?_
      obtain ⟨r27, iv27, ar27, hc27, hm⟩ := ob_some hm
      refine g_calli (As := [.int (-12), .int (iv 23)]) (rest := []) C hw (kX12_fail hc27) mtX12_fail lkX12_207 oM hl.1 rfl rfl (Nat.le_of_ble_eq_true rfl) ⟨Nat.le_of_ble_eq_true rfl, Nat.le_of_ble_eq_true rfl⟩ dX12_take_27 ⟨Nat.zero_le _, Nat.zero_le _⟩ (fun H locs hw => ?_)
      cases hm
      exact g_iret C hw dX12_take_30
  · have hm := it_f hc hm
    refine lv_iconst (v := (-1)) hx hb dX12_take_7 ci_m1 ?_
    cases hm
    exact g_iret C hw dX12_take_8
def mX12_pushFrame (a1 : Int32) (a2 : Int32) (a3 : Int32) (iv : mI) (ar : mA) : Option (Int32 × mI × mA) := if (iv 29) < 0 ∨ 220 ≤ (iv 29).toNatClampNeg then none else if (iv 29) < 0 ∨ 220 ≤ (iv 29).toNatClampNeg then none else if (iv 29) < 0 ∨ 220 ≤ (iv 29).toNatClampNeg then none else if (iv 29) < 0 ∨ 220 ≤ (iv 29).toNatClampNeg then none else some (0, va_up iv 29 ((iv 29) + 1), au (au (au (au ar 25 (iv 29).toNatClampNeg a1) 26 (iv 29).toNatClampNeg a2) 27 (iv 29).toNatClampNeg a3) 28 (iv 29).toNatClampNeg (-1))
set_option maxRecDepth 100000 in
set_option maxHeartbeats 4000000 in
theorem kX12_pushFrame {a1 a2 a3 : Int32} {iv ivz : mI} {ar arz : mA} {rz : Int32} (hm : mX12_pushFrame a1 a2 a3 iv ar = some (rz, ivz, arz)) : CtV l D cI cJ yX12_pushFrame cX12_pushFrame 4 0 0 [.ref o, .int a1, .int a2, .int a3] (wM cI o ad iv ar) (wM cI o ad ivz arz) := by
  intro sz
  refine ct_of (by decide) (Nat.le_of_ble_eq_true rfl) ?_
  intro p e s m args below meth c C hw ls hl
  have hl : lv_has ls 4 [(0, .ref o), (1, .int a1), (2, .int a2), (3, .int a3)] := hl
  have hx := C.1.1
  have hb := C.1.2.1
  unfold mX12_pushFrame at hm
  refine lv_aload_n hx hb dX12_pushFrame_0 rfl (lv_at hl 0 rfl) ?_
  refine g_get C hw gM_25 dX12_pushFrame_1 ?_
  refine lv_aload_n hx hb dX12_pushFrame_4 rfl (lv_at hl 0 rfl) ?_
  refine g_get C hw gM_29 dX12_pushFrame_5 ?_
  refine lv_iload_n hx hb dX12_pushFrame_8 rfl (lv_at hl 1 rfl) ?_
  obtain ⟨hi, hm⟩ := it_a hm
  refine g_ast C hw sM_25 hi dX12_pushFrame_9 (fun H locs hw => ?_)
  refine lv_aload_n hx hb dX12_pushFrame_10 rfl (lv_at hl 0 rfl) ?_
  refine g_get C hw gM_26 dX12_pushFrame_11 ?_
  refine lv_aload_n hx hb dX12_pushFrame_14 rfl (lv_at hl 0 rfl) ?_
  refine g_get C hw gM_29 dX12_pushFrame_15 ?_
  refine lv_iload_n hx hb dX12_pushFrame_18 rfl (lv_at hl 2 rfl) ?_
  obtain ⟨hi, hm⟩ := it_a hm
  refine g_ast C hw sM_26 hi dX12_pushFrame_19 (fun H locs hw => ?_)
  refine lv_aload_n hx hb dX12_pushFrame_20 rfl (lv_at hl 0 rfl) ?_
  refine g_get C hw gM_27 dX12_pushFrame_21 ?_
  refine lv_aload_n hx hb dX12_pushFrame_24 rfl (lv_at hl 0 rfl) ?_
  refine g_get C hw gM_29 dX12_pushFrame_25 ?_
  refine lv_iload_n hx hb dX12_pushFrame_28 rfl (lv_at hl 3 rfl) ?_
  obtain ⟨hi, hm⟩ := it_a hm
  refine g_ast C hw sM_27 hi dX12_pushFrame_29 (fun H locs hw => ?_)
  refine lv_aload_n hx hb dX12_pushFrame_30 rfl (lv_at hl 0 rfl) ?_
  refine g_get C hw gM_28 dX12_pushFrame_31 ?_
  refine lv_aload_n hx hb dX12_pushFrame_34 rfl (lv_at hl 0 rfl) ?_
  refine g_get C hw gM_29 dX12_pushFrame_35 ?_
  refine lv_iconst (v := (-1)) hx hb dX12_pushFrame_38 ci_m1 ?_
  obtain ⟨hi, hm⟩ := it_a hm
  refine g_ast C hw sM_28 hi dX12_pushFrame_39 (fun H locs hw => ?_)
  refine lv_aload_n hx hb dX12_pushFrame_40 rfl (lv_at hl 0 rfl) ?_
  refine lv_dup hx hb dX12_pushFrame_41 rfl ?_
  refine g_get C hw gM_29 dX12_pushFrame_42 ?_
  refine lv_iconst (v := 1) hx hb dX12_pushFrame_45 ci_1 ?_
  refine lv_iadd hx hb dX12_pushFrame_46 ?_
  refine g_put C hw pM_29 dX12_pushFrame_47 (fun H locs hw => ?_)
  cases hm
  exact g_vret C hw dX12_pushFrame_50
end
