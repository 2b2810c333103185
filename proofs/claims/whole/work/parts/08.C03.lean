section
variable {l : Launch} {p : Program} {e : Env} {s : State} {m : MethodId} {args : Array Value} {below : List Frame} {meth : Method} {c : Code} {D : va_G} {cI cJ : ClassId} {A : Nat → Prop} {oc ac : Nat → Nat} {pa pb : Nat} {aa ab : Nat → Nat} {xp xs tp cp mp : Nat}
def mX4_resume_J67 (l1 : Int32) (l2 : Int32) (iv : mI) (ar : mA) (la : mL) (pA : mA) (pB : mA) : Option (Int32 × mI × mA × mL × mA × mA) := if l1 < 0 ∨ 300 ≤ l1.toNatClampNeg then none else obc (mX4_neededBy l2 iv ar la pA pB) (fun r75 iv75 ar75 la75 pA75 pB75 => if r75 ≤ (ar 405 l1.toNatClampNeg) then obc (mX4_gottenBy l1 0 (va_up iv75 407 l1) ar75 la75 pA75 pB75) (fun r116 iv116 ar116 la116 pA116 pB116 => if l1 < 0 ∨ 300 ≤ l1.toNatClampNeg then none else obc (mX4_finish l2 r116 (ar116 404 l1.toNatClampNeg) iv116 ar116 la116 pA116 pB116) (fun r125 iv125 ar125 la125 pA125 pB125 => some (0, iv125, ar125, la125, pA125, pB125))) else if l1 < 0 ∨ 300 ≤ l1.toNatClampNeg then none else obc (mX6_kidInTurnA l2 (ar75 405 l1.toNatClampNeg) iv75 ar75 la75 pA75 pB75) (fun r93 iv93 ar93 la93 pA93 pB93 => if l1 < 0 ∨ 300 ≤ l1.toNatClampNeg then none else obc (mX4_want r93 (ar93 404 l1.toNatClampNeg) iv93 ar93 la93 pA93 pB93) (fun r102 iv102 ar102 la102 pA102 pB102 => some (0, iv102, ar102, la102, pA102, pB102))))
set_option maxRecDepth 100000 in
set_option maxHeartbeats 4000000 in
theorem wX4_resume_J67 (C : mCx p s m args meth c RX4 cX4_resume 3 none D cI cJ A) : ∀ (l1 : Int32) (l2 : Int32) (iv : mI) (ar : mA) (la : mL) (pA : mA) (pB : mA) (rz : Int32) (ivz : mI) (arz : mA) (laz : mL) (pAz : mA) (pBz : mA), mX4_resume_J67 l1 l2 iv ar la pA pB = some (rz, ivz, arz, laz, pAz, pBz) → ∀ (H : Heap) (locs : List Loc) (ls : Array Slot), lv_has ls 3 [(0, .ref (oc 4)), (1, .int l1), (2, .int l2)] → inW D A s (wC cI cJ oc ac pa pb aa ab xp xs tp cp pa iv ar la pA pB) H locs → W p l e (rmO 4 92) s m args below meth c H locs 0 0 (MQ below (ctQv D cI cJ (wC cI cJ oc ac pa pb aa ab xp xs tp cp pa ivz arz laz pAz pBz) A) args s 0 0 A) (F0 m 67 ls []) := by
  intro l1 l2 iv ar la pA pB rz ivz arz laz pAz pBz hm H locs ls hl hw
  have hx := C.1.1
  have hb := C.1.2.1
  unfold mX4_resume_J67 at hm
  refine lv_aload_n hx hb dX4_resume_67 rfl (lv_at hl 0 rfl) ?_
  refine g_get C hw gC4_5 dX4_resume_68 ?_
  refine lv_iload_n hx hb dX4_resume_71 rfl (lv_at hl 1 rfl) ?_
  obtain ⟨hi, hm⟩ := it_a hm
  refine g_ald C hw aC4_5 hi dX4_resume_72 ?_
  refine lv_aload_n hx hb dX4_resume_73 rfl (lv_at hl 0 rfl) ?_
  refine lv_iload_n hx hb dX4_resume_74 rfl (lv_at hl 2 rfl) ?_
  obtain ⟨r75, iv75, ar75, la75, pA75, pB75, hc75, hm⟩ := obc_some hm
  refine g_calli (As := [.int l2]) (rest := [.int (ar 405 l1.toNatClampNeg)]) C hw (kX4_neededBy hc75) mtX4_neededBy lkX4_122 oC4 hl.1 rfl rfl (Nat.le_of_ble_eq_true rfl) ⟨Nat.le_of_ble_eq_true rfl, Nat.le_of_ble_eq_true rfl⟩ dX4_resume_75 ⟨Nat.zero_le _, Nat.zero_le _⟩ (fun H locs hw => ?_)
  refine lv_icmp_ge (tgt := 106) hx hb dX4_resume_78 (by decide) (fun hc => ?_) (fun hc => ?_)
  · have hm := it_t hc hm
    refine lv_aload_n hx hb dX4_resume_106 rfl (lv_at hl 0 rfl) ?_
    refine lv_iload_n hx hb dX4_resume_107 rfl (lv_at hl 1 rfl) ?_
    refine g_put C hw pC4_7 dX4_resume_108 (fun H locs hw => ?_)
    refine lv_aload_n hx hb dX4_resume_111 rfl (lv_at hl 0 rfl) ?_
    refine lv_iload_n hx hb dX4_resume_112 rfl (lv_at hl 2 rfl) ?_
    refine lv_aload_n hx hb dX4_resume_113 rfl (lv_at hl 0 rfl) ?_
    refine lv_iload_n hx hb dX4_resume_114 rfl (lv_at hl 1 rfl) ?_
    refine lv_iconst (v := 0) hx hb dX4_resume_115 ci_0 ?_
    obtain ⟨r116, iv116, ar116, la116, pA116, pB116, hc116, hm⟩ := obc_some hm
    refine g_calli (As := [.int l1, .int 0]) (rest := [.int l2, .ref (oc 4)]) C hw (kX4_gottenBy hc116) mtX4_gottenBy lkX4_125 oC4 hl.1 rfl rfl (Nat.le_of_ble_eq_true rfl) ⟨Nat.le_of_ble_eq_true rfl, Nat.le_of_ble_eq_true rfl⟩ dX4_resume_116 ⟨Nat.zero_le _, Nat.zero_le _⟩ (fun H locs hw => ?_)
    refine lv_aload_n hx hb dX4_resume_119 rfl (lv_at hl 0 rfl) ?_
    refine g_get C hw gC4_4 dX4_resume_120 ?_
    refine lv_iload_n hx hb dX4_resume_123 rfl (lv_at hl 1 rfl) ?_
    obtain ⟨hi, hm⟩ := it_a hm
    refine g_ald C hw aC4_4 hi dX4_resume_124 ?_
    obtain ⟨r125, iv125, ar125, la125, pA125, pB125, hc125, hm⟩ := obc_some hm
    refine g_callv (As := [.int l2, .int r116, .int (ar116 404 l1.toNatClampNeg)]) (rest := []) C hw (kX4_finish hc125) mtX4_finish lkX4_128 oC4 hl.1 rfl rfl (Nat.le_of_ble_eq_true rfl) ⟨Nat.le_of_ble_eq_true rfl, Nat.le_of_ble_eq_true rfl⟩ dX4_resume_125 ⟨Nat.zero_le _, Nat.zero_le _⟩ (fun H locs hw => ?_)
    cases hm
    exact g_vret C hw dX4_resume_128
  · have hm := it_f hc hm
    refine lv_aload_n hx hb dX4_resume_81 rfl (lv_at hl 0 rfl) ?_
    refine lv_aload_n hx hb dX4_resume_82 rfl (lv_at hl 0 rfl) ?_
    refine g_get C hw gC4_2 dX4_resume_83 ?_
    refine lv_iload_n hx hb dX4_resume_86 rfl (lv_at hl 2 rfl) ?_
    refine lv_aload_n hx hb dX4_resume_87 rfl (lv_at hl 0 rfl) ?_
    refine g_get C hw gC4_5 dX4_resume_88 ?_
    refine lv_iload_n hx hb dX4_resume_91 rfl (lv_at hl 1 rfl) ?_
    obtain ⟨hi, hm⟩ := it_a hm
    refine g_ald C hw aC4_5 hi dX4_resume_92 ?_
    obtain ⟨r93, iv93, ar93, la93, pA93, pB93, hc93, hm⟩ := obc_some hm
    refine g_calli (As := [.int l2, .int (ar75 405 l1.toNatClampNeg)]) (rest := [.ref (oc 4)]) C hw (kX6_kidInTurnA hc93) mtX6_kidInTurn lkX4_119 oC6A hl.1 rfl rfl (Nat.le_of_ble_eq_true rfl) ⟨Nat.le_of_ble_eq_true rfl, Nat.le_of_ble_eq_true rfl⟩ dX4_resume_93 ⟨Nat.zero_le _, Nat.zero_le _⟩ (fun H locs hw => ?_)
    refine lv_aload_n hx hb dX4_resume_96 rfl (lv_at hl 0 rfl) ?_
    refine g_get C hw gC4_4 dX4_resume_97 ?_
    refine lv_iload_n hx hb dX4_resume_100 rfl (lv_at hl 1 rfl) ?_
    obtain ⟨hi, hm⟩ := it_a hm
    refine g_ald C hw aC4_4 hi dX4_resume_101 ?_
    obtain ⟨r102, iv102, ar102, la102, pA102, pB102, hc102, hm⟩ := obc_some hm
    refine g_callv (As := [.int r93, .int (ar93 404 l1.toNatClampNeg)]) (rest := []) C hw (kX4_want hc102) mtX4_want lkX4_59 oC4 hl.1 rfl rfl (Nat.le_of_ble_eq_true rfl) ⟨Nat.le_of_ble_eq_true rfl, Nat.le_of_ble_eq_true rfl⟩ dX4_resume_102 ⟨Nat.zero_le _, Nat.zero_le _⟩ (fun H locs hw => ?_)
    cases hm
    exact g_vret C hw dX4_resume_105
def mX4_resume  (iv : mI) (ar : mA) (la : mL) (pA : mA) (pB : mA) : Option (Int32 × mI × mA × mL × mA × mA) := if ((iv 407) - 1) < 0 then some (0, iv, ar, la, pA, pB) else if ((iv 407) - 1) < 300 then if ((iv 407) - 1) < 0 ∨ 300 ≤ ((iv 407) - 1).toNatClampNeg then none else if ((iv 407) - 1) < 0 ∨ 300 ≤ ((iv 407) - 1).toNatClampNeg then none else if 8 ≤ (ar 405 ((iv 407) - 1).toNatClampNeg) then mX4_resume_J67 ((iv 407) - 1) (ar 403 ((iv 407) - 1).toNatClampNeg) iv ar la pA pB else if ((iv 407) - 1) < 0 ∨ 300 ≤ ((iv 407) - 1).toNatClampNeg then none else if ((((iv 407) - 1) * 8) + (ar 405 ((iv 407) - 1).toNatClampNeg)) < 0 ∨ 2400 ≤ ((((iv 407) - 1) * 8) + (ar 405 ((iv 407) - 1).toNatClampNeg)).toNatClampNeg then none else if ((iv 407) - 1) < 0 ∨ 300 ≤ ((iv 407) - 1).toNatClampNeg then none else if ((iv 407) - 1) < 0 ∨ 300 ≤ ((iv 407) - 1).toNatClampNeg then none else mX4_resume_J67 ((iv 407) - 1) (ar 403 ((iv 407) - 1).toNatClampNeg) iv (au (au ar 406 ((((iv 407) - 1) * 8) + (ar 405 ((iv 407) - 1).toNatClampNeg)).toNatClampNeg (iv 412)) 405 ((iv 407) - 1).toNatClampNeg (((au ar 406 ((((iv 407) - 1) * 8) + (ar 405 ((iv 407) - 1).toNatClampNeg)).toNatClampNeg (iv 412)) 405 ((iv 407) - 1).toNatClampNeg) + 1)) la pA pB else some (0, iv, ar, la, pA, pB)
set_option maxRecDepth 100000 in
set_option maxHeartbeats 4000000 in
theorem kX4_resume {iv ivz : mI} {ar arz : mA} {la laz : mL} {pA pAz : mA} {pB pBz : mA} {rz : Int32} (hm : mX4_resume iv ar la pA pB = some (rz, ivz, arz, laz, pAz, pBz)) : CtV l D cI cJ yX4_resume cX4_resume 3 4 92 [.ref (oc 4)] (wC cI cJ oc ac pa pb aa ab xp xs tp cp pa iv ar la pA pB) (wC cI cJ oc ac pa pb aa ab xp xs tp cp pa ivz arz laz pAz pBz) := by
  intro sz
  refine ct_of (by decide) (Nat.le_of_ble_eq_true rfl) ?_
  intro p e s m args below meth c C hw ls hl
  have hl : lv_has ls 3 [(0, .ref (oc 4))] := hl
  have hx := C.1.1
  have hb := C.1.2.1
  unfold mX4_resume at hm
  refine lv_aload_n hx hb dX4_resume_0 rfl (lv_at hl 0 rfl) ?_
  refine g_get C hw gC4_7 dX4_resume_1 ?_
  refine lv_iconst (v := 1) hx hb dX4_resume_4 ci_1 ?_
  refine lv_isub hx hb dX4_resume_5 ?_
  refine lv_istore_n (lv' := [(1, .int ((iv 407) - 1)), (0, .ref (oc 4))]) hx hb dX4_resume_6 rfl hl (by decide) rfl (fun ls hl => ?_)
  refine lv_iload_n hx hb dX4_resume_7 rfl (lv_at hl 0 rfl) ?_
  refine lv_if_lt (tgt := 18) hx hb dX4_resume_8 (by decide) (fun hc => ?_) (fun hc => ?_)
  · have hm := it_t hc hm
    cases hm
    exact g_vret C hw dX4_resume_18
  · have hm := it_f hc hm
    refine lv_iload_n hx hb dX4_resume_11 rfl (lv_at hl 0 rfl) ?_
    refine lv_sipush (v := 300) hx hb dX4_resume_12 cs_300 ?_
    refine lv_icmp_lt (tgt := 19) hx hb dX4_resume_15 (by decide) (fun hc => ?_) (fun hc => ?_)
    · have hm := it_t hc hm
      refine lv_aload_n hx hb dX4_resume_19 rfl (lv_at hl 1 rfl) ?_
      refine g_get C hw gC4_3 dX4_resume_20 ?_
      refine lv_iload_n hx hb dX4_resume_23 rfl (lv_at hl 0 rfl) ?_
      obtain ⟨hi, hm⟩ := it_a hm
      refine g_ald C hw aC4_3 hi dX4_resume_24 ?_
      refine lv_istore_n (lv' := [(2, .int (ar 403 ((iv 407) - 1).toNatClampNeg)), (1, .int ((iv 407) - 1)), (0, .ref (oc 4))]) hx hb dX4_resume_25 rfl hl (by decide) rfl (fun ls hl => ?_)
      refine lv_aload_n hx hb dX4_resume_26 rfl (lv_at hl 2 rfl) ?_
      refine g_get C hw gC4_5 dX4_resume_27 ?_
      refine lv_iload_n hx hb dX4_resume_30 rfl (lv_at hl 1 rfl) ?_
      obtain ⟨hi, hm⟩ := it_a hm
      refine g_ald C hw aC4_5 hi dX4_resume_31 ?_
      refine lv_bipush (v := 8) hx hb dX4_resume_32 cb_8 ?_
      refine lv_icmp_ge (tgt := 67) hx hb dX4_resume_34 (by decide) (fun hc => ?_) (fun hc => ?_)
      · have hm := it_t hc hm
        exact wX4_resume_J67 C _ _ _ _ _ _ _ _ _ _ _ _ _ hm _ _ _ (lv_sub hl [2, 1, 0] rfl) hw
      · have hm := it_f hc hm
        refine lv_aload_n hx hb dX4_resume_37 rfl (lv_at hl 2 rfl) ?_
        refine g_get C hw gC4_6 dX4_resume_38 ?_
        refine lv_iload_n hx hb dX4_resume_41 rfl (lv_at hl 1 rfl) ?_
        refine lv_bipush (v := 8) hx hb dX4_resume_42 cb_8 ?_
        refine lv_imul hx hb dX4_resume_44 ?_
        refine lv_aload_n hx hb dX4_resume_45 rfl (lv_at hl 2 rfl) ?_
        refine g_get C hw gC4_5 dX4_resume_46 ?_
        refine lv_iload_n hx hb dX4_resume_49 rfl (lv_at hl 1 rfl) ?_
        obtain ⟨hi, hm⟩ := it_a hm
        refine g_ald C hw aC4_5 hi dX4_resume_50 ?_
        refine lv_iadd hx hb dX4_resume_51 ?_
        refine lv_aload_n hx hb dX4_resume_52 rfl (lv_at hl 2 rfl) ?_
        refine g_get C hw gC4_12 dX4_resume_53 ?_
        obtain ⟨hi, hm⟩ := it_a hm
        refine g_ast C hw sC4_6 hi dX4_resume_56 (fun H locs hw => ?_)
        refine lv_aload_n hx hb dX4_resume_57 rfl (lv_at hl 2 rfl) ?_
        refine g_get C hw gC4_5 dX4_resume_58 ?_
        refine lv_iload_n hx hb dX4_resume_61 rfl (lv_at hl 1 rfl) ?_
        refine lv_dup2_11 hx hb dX4_resume_62 rfl rfl ?_
        obtain ⟨hi, hm⟩ := it_a hm
        refine g_ald C hw aC4_5 hi dX4_resume_63 ?_
        refine lv_iconst (v := 1) hx hb dX4_resume_64 ci_1 ?_
        refine lv_iadd hx hb dX4_resume_65 ?_
        obtain ⟨hi, hm⟩ := it_a hm
        refine g_ast C hw sC4_5 hi dX4_resume_66 (fun H locs hw => ?_)
        exact wX4_resume_J67 C _ _ _ _ _ _ _ _ _ _ _ _ _ hm _ _ _ (lv_sub hl [2, 1, 0] rfl) hw
    · have hm := it_f hc hm
      cases hm
      exact g_vret C hw dX4_resume_18
def mX1_valueAt_J36 (l3 : Int32) (iv : mI) (ar : mA) (la : mL) (pA : mA) (pB : mA) : Option (Int32 × mI × mA × mL × mA × mA) := if l3 < 0 then some ((-1), iv, ar, la, pA, pB) else if (iv 102) ≤ l3 then some ((-1), iv, ar, la, pA, pB) else if l3 < 0 ∨ 20000 ≤ l3.toNatClampNeg then none else some ((ar 100 l3.toNatClampNeg), iv, ar, la, pA, pB)
set_option maxRecDepth 100000 in
set_option maxHeartbeats 4000000 in
theorem wX1_valueAt_J36 (C : mCx p s m args meth c RX1 cX1_valueAt 5 (some .int) D cI cJ A) : ∀ (l3 : Int32) (iv : mI) (ar : mA) (la : mL) (pA : mA) (pB : mA) (rz : Int32) (ivz : mI) (arz : mA) (laz : mL) (pAz : mA) (pBz : mA), mX1_valueAt_J36 l3 iv ar la pA pB = some (rz, ivz, arz, laz, pAz, pBz) → ∀ (H : Heap) (locs : List Loc) (ls : Array Slot), lv_has ls 5 [(0, .ref (oc 1)), (3, .int l3)] → inW D A s (wC cI cJ oc ac pa pb aa ab xp xs tp cp mp iv ar la pA pB) H locs → W p l e (rmO 0 0) s m args below meth c H locs 0 0 (MQ below (ctQ D cI cJ (wC cI cJ oc ac pa pb aa ab xp xs tp cp mp ivz arz laz pAz pBz) A rz) args s 0 0 A) (F0 m 36 ls []) := by
  intro l3 iv ar la pA pB rz ivz arz laz pAz pBz hm H locs ls hl hw
  have hx := C.1.1
  have hb := C.1.2.1
  unfold mX1_valueAt_J36 at hm
  refine lv_iload_n hx hb dX1_valueAt_36 rfl (lv_at hl 1 rfl) ?_
  refine lv_if_lt (tgt := 57) hx hb dX1_valueAt_37 (by decide) (fun hc => ?_) (fun hc => ?_)
  · have hm := it_t hc hm
    refine lv_iconst (v := (-1)) hx hb dX1_valueAt_57 ci_m1 ?_
    cases hm
    exact g_iret C hw dX1_valueAt_58
  · have hm := it_f hc hm
    refine lv_iload_n hx hb dX1_valueAt_40 rfl (lv_at hl 1 rfl) ?_
    refine lv_aload_n hx hb dX1_valueAt_41 rfl (lv_at hl 0 rfl) ?_
    refine g_get C hw gC1_2 dX1_valueAt_42 ?_
    refine lv_icmp_ge (tgt := 57) hx hb dX1_valueAt_45 (by decide) (fun hc => ?_) (fun hc => ?_)
    · have hm := it_t hc hm
      refine lv_iconst (v := (-1)) hx hb dX1_valueAt_57 ci_m1 ?_
      cases hm
      exact g_iret C hw dX1_valueAt_58
    · have hm := it_f hc hm
      refine lv_aload_n hx hb dX1_valueAt_48 rfl (lv_at hl 0 rfl) ?_
      refine g_get C hw gC1_0 dX1_valueAt_49 ?_
      refine lv_iload_n hx hb dX1_valueAt_52 rfl (lv_at hl 1 rfl) ?_
      obtain ⟨hi, hm⟩ := it_a hm
      refine g_ald C hw aC1_0 hi dX1_valueAt_53 ?_
      refine lv_goto (tgt := 58) hx hb dX1_valueAt_54 (by decide) ?_
      cases hm
      exact g_iret C hw dX1_valueAt_58
def mX1_valueAt_L5 : Nat → Int32 → Int32 → Int32 → mI → mA → mL → mA → mA → Option (Int32 × mI × mA × mL × mA × mA)
  | 0, _, _, _, _, _, _, _, _ => none
  | n + 1, l2, l3, l4, iv, ar, la, pA, pB => if l2 ≤ l4 then mX1_valueAt_J36 l3 iv ar la pA pB else if l3 < 0 then mX1_valueAt_J36 l3 iv ar la pA pB else if (iv 102) ≤ l3 then mX1_valueAt_J36 l3 iv ar la pA pB else if l3 < 0 ∨ 20000 ≤ l3.toNatClampNeg then none else mX1_valueAt_L5 n l2 (ar 101 l3.toNatClampNeg) (l4 + 1) iv ar la pA pB
set_option maxRecDepth 100000 in
set_option maxHeartbeats 4000000 in
theorem wX1_valueAt_L5 (C : mCx p s m args meth c RX1 cX1_valueAt 5 (some .int) D cI cJ A) (n : Nat) : ∀ (l2 : Int32) (l3 : Int32) (l4 : Int32) (iv : mI) (ar : mA) (la : mL) (pA : mA) (pB : mA) (rz : Int32) (ivz : mI) (arz : mA) (laz : mL) (pAz : mA) (pBz : mA), mX1_valueAt_L5 n l2 l3 l4 iv ar la pA pB = some (rz, ivz, arz, laz, pAz, pBz) → ∀ (H : Heap) (locs : List Loc) (ls : Array Slot), lv_has ls 5 [(0, .ref (oc 1)), (2, .int l2), (3, .int l3), (4, .int l4)] → inW D A s (wC cI cJ oc ac pa pb aa ab xp xs tp cp mp iv ar la pA pB) H locs → W p l e (rmO 0 0) s m args below meth c H locs 0 0 (MQ below (ctQ D cI cJ (wC cI cJ oc ac pa pb aa ab xp xs tp cp mp ivz arz laz pAz pBz) A rz) args s 0 0 A) (F0 m 5 ls []) := by
  induction n with
  | zero =>
    intro l2 l3 l4 iv ar la pA pB rz ivz arz laz pAz pBz hm H locs ls hl hw
    have hm : (none : Option (Int32 × mI × mA × mL × mA × mA)) = some _ := hm
    cases hm
  | succ n ih =>
    intro l2 l3 l4 iv ar la pA pB rz ivz arz laz pAz pBz hm H locs ls hl hw
    have hx := C.1.1
    have hb := C.1.2.1
    unfold mX1_valueAt_L5 at hm
    refine lv_iload hx hb dX1_valueAt_5 (lv_at hl 3 rfl) ?_
    refine lv_iload_n hx hb dX1_valueAt_7 rfl (lv_at hl 1 rfl) ?_
    refine lv_icmp_ge (tgt := 36) hx hb dX1_valueAt_8 (by decide) (fun hc => ?_) (fun hc => ?_)
    · have hm := it_t hc hm
      exact wX1_valueAt_J36 C _ _ _ _ _ _ _ _ _ _ _ _ hm _ _ _ (lv_sub hl [0, 2] rfl) hw
    · have hm := it_f hc hm
      refine lv_iload_n hx hb dX1_valueAt_11 rfl (lv_at hl 2 rfl) ?_
      refine lv_if_lt (tgt := 36) hx hb dX1_valueAt_12 (by decide) (fun hc => ?_) (fun hc => ?_)
      · have hm := it_t hc hm
        exact wX1_valueAt_J36 C _ _ _ _ _ _ _ _ _ _ _ _ hm _ _ _ (lv_sub hl [0, 2] rfl) hw
      · have hm := it_f hc hm
        refine lv_iload_n hx hb dX1_valueAt_15 rfl (lv_at hl 2 rfl) ?_
        refine lv_aload_n hx hb dX1_valueAt_16 rfl (lv_at hl 0 rfl) ?_
        refine g_get C hw gC1_2 dX1_valueAt_17 ?_
        refine lv_icmp_ge (tgt := 36) hx hb dX1_valueAt_20 (by decide) (fun hc => ?_) (fun hc => ?_)
        · have hm := it_t hc hm
          exact wX1_valueAt_J36 C _ _ _ _ _ _ _ _ _ _ _ _ hm _ _ _ (lv_sub hl [0, 2] rfl) hw
        · have hm := it_f hc hm
          refine lv_aload_n hx hb dX1_valueAt_23 rfl (lv_at hl 0 rfl) ?_
          refine g_get C hw gC1_1 dX1_valueAt_24 ?_
          refine lv_iload_n hx hb dX1_valueAt_27 rfl (lv_at hl 2 rfl) ?_
          obtain ⟨hi, hm⟩ := it_a hm
          refine g_ald C hw aC1_1 hi dX1_valueAt_28 ?_
          refine lv_istore_n (lv' := [(3, .int (ar 101 l3.toNatClampNeg)), (0, .ref (oc 1)), (2, .int l2), (4, .int l4)]) hx hb dX1_valueAt_29 rfl hl (by decide) rfl (fun ls hl => ?_)
          refine lv_iinc (v := (l4 + 1)) (lv' := [(4, .int (l4 + 1)), (3, .int (ar 101 l3.toNatClampNeg)), (0, .ref (oc 1)), (2, .int l2)]) hx hb dX1_valueAt_30 hl (k := 3) rfl (ii_ ci_1) (by decide) rfl (fun ls hl => ?_)
          refine lv_goto (tgt := 5) hx hb dX1_valueAt_33 (by decide) ?_
          exact ih _ _ _ _ _ _ _ _ _ _ _ _ _ _ hm _ _ _ (lv_sub hl [2, 3, 1, 0] rfl) hw
def mX1_valueAt (a1 : Int32) (a2 : Int32) (iv : mI) (ar : mA) (la : mL) (pA : mA) (pB : mA) : Option (Int32 × mI × mA × mL × mA × mA) := mX1_valueAt_L5 bigF a2 a1 0 iv ar la pA pB
set_option maxRecDepth 100000 in
set_option maxHeartbeats 4000000 in
theorem kX1_valueAt {a1 a2 : Int32} {iv ivz : mI} {ar arz : mA} {la laz : mL} {pA pAz : mA} {pB pBz : mA} {rz : Int32} (hm : mX1_valueAt a1 a2 iv ar la pA pB = some (rz, ivz, arz, laz, pAz, pBz)) : Ct l D cI cJ yX1_valueAt cX1_valueAt 5 (some .int) 0 0 [.ref (oc 1), .int a1, .int a2] (wC cI cJ oc ac pa pb aa ab xp xs tp cp mp iv ar la pA pB) (wC cI cJ oc ac pa pb aa ab xp xs tp cp mp ivz arz laz pAz pBz) rz := by
  intro sz
  refine ct_of (by decide) (Nat.le_of_ble_eq_true rfl) ?_
  intro p e s m args below meth c C hw ls hl
  have hl : lv_has ls 5 [(0, .ref (oc 1)), (1, .int a1), (2, .int a2)] := hl
  have hx := C.1.1
  have hb := C.1.2.1
  unfold mX1_valueAt at hm
  refine lv_iload_n hx hb dX1_valueAt_0 rfl (lv_at hl 1 rfl) ?_
  refine lv_istore_n (lv' := [(3, .int a1), (0, .ref (oc 1)), (1, .int a1), (2, .int a2)]) hx hb dX1_valueAt_1 rfl hl (by decide) rfl (fun ls hl => ?_)
  refine lv_iconst (v := 0) hx hb dX1_valueAt_2 ci_0 ?_
  refine lv_istore (lv' := [(4, .int 0), (3, .int a1), (0, .ref (oc 1)), (1, .int a1), (2, .int a2)]) hx hb dX1_valueAt_3 hl (by decide) rfl (fun ls hl => ?_)
  exact wX1_valueAt_L5 C bigF _ _ _ _ _ _ _ _ _ _ _ _ _ _ hm _ _ _ (lv_sub hl [2, 4, 1, 0] rfl) hw
def mX10_setFunction (a1 : Int32) (a2 : Int32) (a3 : Int32) (iv : mI) (ar : mA) (la : mL) (pA : mA) (pB : mA) : Option (Int32 × mI × mA × mL × mA × mA) := obc (mX10_has a1 iv ar la pA pB) (fun r2 iv2 ar2 la2 pA2 pB2 => if r2 = 0 then some (0, iv2, ar2, la2, pA2, pB2) else if a1 < 0 ∨ 2000 ≤ a1.toNatClampNeg then none else if a1 < 0 ∨ 2000 ≤ a1.toNatClampNeg then none else some (0, iv2, au (au ar2 1003 a1.toNatClampNeg a2) 1004 a1.toNatClampNeg a3, la2, pA2, pB2))
set_option maxRecDepth 100000 in
set_option maxHeartbeats 4000000 in
theorem kX10_setFunction {a1 a2 a3 : Int32} {iv ivz : mI} {ar arz : mA} {la laz : mL} {pA pAz : mA} {pB pBz : mA} {rz : Int32} (hm : mX10_setFunction a1 a2 a3 iv ar la pA pB = some (rz, ivz, arz, laz, pAz, pBz)) : CtV l D cI cJ yX10_setFunction cX10_setFunction 4 1 21 [.ref (oc 10), .int a1, .int a2, .int a3] (wC cI cJ oc ac pa pb aa ab xp xs tp cp mp iv ar la pA pB) (wC cI cJ oc ac pa pb aa ab xp xs tp cp mp ivz arz laz pAz pBz) := by
  intro sz
  refine ct_of (by decide) (Nat.le_of_ble_eq_true rfl) ?_
  intro p e s m args below meth c C hw ls hl
  have hl : lv_has ls 4 [(0, .ref (oc 10)), (1, .int a1), (2, .int a2), (3, .int a3)] := hl
  have hx := C.1.1
  have hb := C.1.2.1
  unfold mX10_setFunction at hm
  refine lv_aload_n hx hb dX10_setFunction_0 rfl (lv_at hl 0 rfl) ?_
  refine lv_iload_n hx hb dX10_setFunction_1 rfl (lv_at hl 1 rfl) ?_
  obtain ⟨r2, iv2, ar2, la2, pA2, pB2, hc2, hm⟩ := obc_some hm
  refine g_calli (As := [.int a1]) (rest := []) C hw (kX10_has hc2) mtX10_has lkX10_31 oC10 hl.1 rfl rfl (Nat.le_of_ble_eq_true rfl) ⟨Nat.le_of_ble_eq_true rfl, Nat.le_of_ble_eq_true rfl⟩ dX10_setFunction_2 ⟨Nat.zero_le _, Nat.zero_le _⟩ (fun H locs hw => ?_)
  refine lv_if_eq (tgt := 22) hx hb dX10_setFunction_5 (by decide) (fun hc => ?_) (fun hc => ?_)
  · have hm := it_t hc hm
    cases hm
    exact g_vret C hw dX10_setFunction_22
  · have hm := it_f hc hm
    refine lv_aload_n hx hb dX10_setFunction_8 rfl (lv_at hl 0 rfl) ?_
    refine g_get C hw gC10_3 dX10_setFunction_9 ?_
    refine lv_iload_n hx hb dX10_setFunction_12 rfl (lv_at hl 1 rfl) ?_
    refine lv_iload_n hx hb dX10_setFunction_13 rfl (lv_at hl 2 rfl) ?_
    obtain ⟨hi, hm⟩ := it_a hm
    refine g_ast C hw sC10_3 hi dX10_setFunction_14 (fun H locs hw => ?_)
    refine lv_aload_n hx hb dX10_setFunction_15 rfl (lv_at hl 0 rfl) ?_
    refine g_get C hw gC10_4 dX10_setFunction_16 ?_
    refine lv_iload_n hx hb dX10_setFunction_19 rfl (lv_at hl 1 rfl) ?_
    refine lv_iload_n hx hb dX10_setFunction_20 rfl (lv_at hl 3 rfl) ?_
    obtain ⟨hi, hm⟩ := it_a hm
    refine g_ast C hw sC10_4 hi dX10_setFunction_21 (fun H locs hw => ?_)
    cases hm
    exact g_vret C hw dX10_setFunction_22
def mX4_beginLambda_J24 (l1 : Int32) (l2 : Int32) (s0 : Int32) (iv : mI) (ar : mA) (la : mL) (pA : mA) (pB : mA) : Option (Int32 × mI × mA × mL × mA × mA) := obc (mX10_setFunction s0 l1 l2 (va_up iv 411 (-1)) ar la pA pB) (fun r37 iv37 ar37 la37 pA37 pB37 => obc (mX4_give s0 iv37 ar37 la37 pA37 pB37) (fun r42 iv42 ar42 la42 pA42 pB42 => some (0, iv42, ar42, la42, pA42, pB42)))
set_option maxRecDepth 100000 in
set_option maxHeartbeats 4000000 in
theorem wX4_beginLambda_J24 (C : mCx p s m args meth c RX4 cX4_beginLambda 4 none D cI cJ A) : ∀ (l1 : Int32) (l2 : Int32) (s0 : Int32) (iv : mI) (ar : mA) (la : mL) (pA : mA) (pB : mA) (rz : Int32) (ivz : mI) (arz : mA) (laz : mL) (pAz : mA) (pBz : mA), mX4_beginLambda_J24 l1 l2 s0 iv ar la pA pB = some (rz, ivz, arz, laz, pAz, pBz) → ∀ (H : Heap) (locs : List Loc) (ls : Array Slot), lv_has ls 4 [(0, .ref (oc 4)), (1, .int l1), (2, .int l2)] → inW D A s (wC cI cJ oc ac pa pb aa ab xp xs tp cp pa iv ar la pA pB) H locs → W p l e (rmO 2 44) s m args below meth c H locs 0 0 (MQ below (ctQv D cI cJ (wC cI cJ oc ac pa pb aa ab xp xs tp cp pa ivz arz laz pAz pBz) A) args s 0 0 A) (F0 m 24 ls [.int s0]) := by
  intro l1 l2 s0 iv ar la pA pB rz ivz arz laz pAz pBz hm H locs ls hl hw
  have hx := C.1.1
  have hb := C.1.2.1
  unfold mX4_beginLambda_J24 at hm
  refine lv_istore_n (lv' := [(3, .int s0), (0, .ref (oc 4)), (1, .int l1), (2, .int l2)]) hx hb dX4_beginLambda_24 rfl hl (by decide) rfl (fun ls hl => ?_)
  refine lv_aload_n hx hb dX4_beginLambda_25 rfl (lv_at hl 1 rfl) ?_
  refine lv_iconst (v := (-1)) hx hb dX4_beginLambda_26 ci_m1 ?_
  refine g_put C hw pC4_11 dX4_beginLambda_27 (fun H locs hw => ?_)
  refine lv_aload_n hx hb dX4_beginLambda_30 rfl (lv_at hl 1 rfl) ?_
  refine g_get C hw gC4_0 dX4_beginLambda_31 ?_
  refine lv_iload_n hx hb dX4_beginLambda_34 rfl (lv_at hl 0 rfl) ?_
  refine lv_iload_n hx hb dX4_beginLambda_35 rfl (lv_at hl 2 rfl) ?_
  refine lv_iload_n hx hb dX4_beginLambda_36 rfl (lv_at hl 3 rfl) ?_
  obtain ⟨r37, iv37, ar37, la37, pA37, pB37, hc37, hm⟩ := obc_some hm
  refine g_callv (As := [.int s0, .int l1, .int l2]) (rest := []) C hw (kX10_setFunction hc37) mtX10_setFunction lkX4_105 oC10 hl.1 rfl rfl (Nat.le_of_ble_eq_true rfl) ⟨Nat.le_of_ble_eq_true rfl, Nat.le_of_ble_eq_true rfl⟩ dX4_beginLambda_37 ⟨Nat.zero_le _, Nat.zero_le _⟩ (fun H locs hw => ?_)
  refine lv_aload_n hx hb dX4_beginLambda_40 rfl (lv_at hl 1 rfl) ?_
  refine lv_iload_n hx hb dX4_beginLambda_41 rfl (lv_at hl 0 rfl) ?_
  obtain ⟨r42, iv42, ar42, la42, pA42, pB42, hc42, hm⟩ := obc_some hm
  refine g_callv (As := [.int s0]) (rest := []) C hw (kX4_give hc42) mtX4_give lkX4_89 oC4 hl.1 rfl rfl (Nat.le_of_ble_eq_true rfl) ⟨Nat.le_of_ble_eq_true rfl, Nat.le_of_ble_eq_true rfl⟩ dX4_beginLambda_42 ⟨Nat.zero_le _, Nat.zero_le _⟩ (fun H locs hw => ?_)
  cases hm
  exact g_vret C hw dX4_beginLambda_45
def mX4_beginLambda (a1 : Int32) (a2 : Int32) (iv : mI) (ar : mA) (la : mL) (pA : mA) (pB : mA) : Option (Int32 × mI × mA × mL × mA × mA) := if (iv 411) = (-1) then obc (mX10_add 4 0 iv ar la pA pB) (fun r14 iv14 ar14 la14 pA14 pB14 => mX4_beginLambda_J24 a1 a2 r14 iv14 ar14 la14 pA14 pB14) else mX4_beginLambda_J24 a1 a2 (iv 411) iv ar la pA pB
set_option maxRecDepth 100000 in
set_option maxHeartbeats 4000000 in
theorem kX4_beginLambda {a1 a2 : Int32} {iv ivz : mI} {ar arz : mA} {la laz : mL} {pA pAz : mA} {pB pBz : mA} {rz : Int32} (hm : mX4_beginLambda a1 a2 iv ar la pA pB = some (rz, ivz, arz, laz, pAz, pBz)) : CtV l D cI cJ yX4_beginLambda cX4_beginLambda 4 2 44 [.ref (oc 4), .int a1, .int a2] (wC cI cJ oc ac pa pb aa ab xp xs tp cp pa iv ar la pA pB) (wC cI cJ oc ac pa pb aa ab xp xs tp cp pa ivz arz laz pAz pBz) := by
  intro sz
  refine ct_of (by decide) (Nat.le_of_ble_eq_true rfl) ?_
  intro p e s m args below meth c C hw ls hl
  have hl : lv_has ls 4 [(0, .ref (oc 4)), (1, .int a1), (2, .int a2)] := hl
  have hx := C.1.1
  have hb := C.1.2.1
  unfold mX4_beginLambda at hm
  refine lv_aload_n hx hb dX4_beginLambda_0 rfl (lv_at hl 0 rfl) ?_
  refine g_get C hw gC4_11 dX4_beginLambda_1 ?_
  refine lv_iconst (v := (-1)) hx hb dX4_beginLambda_4 ci_m1 ?_
  refine lv_icmp_ne (tgt := 20) hx hb dX4_beginLambda_5 (by decide) (fun hc => ?_) (fun hc => ?_)
  · have hm := it_f hc hm
    refine lv_aload_n hx hb dX4_beginLambda_20 rfl (lv_at hl 0 rfl) ?_
    refine g_get C hw gC4_11 dX4_beginLambda_21 ?_
    exact wX4_beginLambda_J24 C _ _ _ _ _ _ _ _ _ _ _ _ _ _ hm _ _ _ (lv_sub hl [0, 1, 2] rfl) hw
  · have hm := it_t hc hm
    refine lv_aload_n hx hb dX4_beginLambda_8 rfl (lv_at hl 0 rfl) ?_
    refine g_get C hw gC4_0 dX4_beginLambda_9 ?_
    refine lv_iconst (v := 4) hx hb dX4_beginLambda_12 ci_4 ?_
    refine lv_iconst (v := 0) hx hb dX4_beginLambda_13 ci_0 ?_
    obtain ⟨r14, iv14, ar14, la14, pA14, pB14, hc14, hm⟩ := obc_some hm
    refine g_calli (As := [.int 4, .int 0]) (rest := []) C hw (kX10_add hc14) mtX10_add lkX4_96 oC10 hl.1 rfl rfl (Nat.le_of_ble_eq_true rfl) ⟨Nat.le_of_ble_eq_true rfl, Nat.le_of_ble_eq_true rfl⟩ dX4_beginLambda_14 ⟨Nat.zero_le _, Nat.zero_le _⟩ (fun H locs hw => ?_)
    refine lv_goto (tgt := 24) hx hb dX4_beginLambda_17 (by decide) ?_
    exact wX4_beginLambda_J24 C _ _ _ _ _ _ _ _ _ _ _ _ _ _ hm _ _ _ (lv_sub hl [0, 1, 2] rfl) hw
def mX4_beginItself (a1 : Int32) (a2 : Int32) (iv : mI) (ar : mA) (la : mL) (pA : mA) (pB : mA) : Option (Int32 × mI × mA × mL × mA × mA) := obc (mX10_add 4 0 iv ar la pA pB) (fun r6 iv6 ar6 la6 pA6 pB6 => if r6 = (-1) then obc (mX4_give (-1) iv6 ar6 la6 pA6 pB6) (fun r17 iv17 ar17 la17 pA17 pB17 => some (0, iv17, ar17, la17, pA17, pB17)) else obc (mX6_kidA a1 0 (va_up iv6 411 r6) ar6 la6 pA6 pB6) (fun r33 iv33 ar33 la33 pA33 pB33 => obc (mX1_add r6 a2 iv33 ar33 la33 pA33 pB33) (fun r42 iv42 ar42 la42 pA42 pB42 => obc (mX4_want r33 r42 iv42 ar42 la42 pA42 pB42) (fun r45 iv45 ar45 la45 pA45 pB45 => some (0, iv45, ar45, la45, pA45, pB45)))))
set_option maxRecDepth 100000 in
set_option maxHeartbeats 4000000 in
theorem kX4_beginItself {a1 a2 : Int32} {iv ivz : mI} {ar arz : mA} {la laz : mL} {pA pAz : mA} {pB pBz : mA} {rz : Int32} (hm : mX4_beginItself a1 a2 iv ar la pA pB = some (rz, ivz, arz, laz, pAz, pBz)) : CtV l D cI cJ yX4_beginItself cX4_beginItself 4 1 23 [.ref (oc 4), .int a1, .int a2] (wC cI cJ oc ac pa pb aa ab xp xs tp cp pa iv ar la pA pB) (wC cI cJ oc ac pa pb aa ab xp xs tp cp pa ivz arz laz pAz pBz) := by
  intro sz
  refine ct_of (by decide) (Nat.le_of_ble_eq_true rfl) ?_
  intro p e s m args below meth c C hw ls hl
  have hl : lv_has ls 4 [(0, .ref (oc 4)), (1, .int a1), (2, .int a2)] := hl
  have hx := C.1.1
  have hb := C.1.2.1
  unfold mX4_beginItself at hm
  refine lv_aload_n hx hb dX4_beginItself_0 rfl (lv_at hl 0 rfl) ?_
  refine g_get C hw gC4_0 dX4_beginItself_1 ?_
  refine lv_iconst (v := 4) hx hb dX4_beginItself_4 ci_4 ?_
  refine lv_iconst (v := 0) hx hb dX4_beginItself_5 ci_0 ?_
  obtain ⟨r6, iv6, ar6, la6, pA6, pB6, hc6, hm⟩ := obc_some hm
  refine g_calli (As := [.int 4, .int 0]) (rest := []) C hw (kX10_add hc6) mtX10_add lkX4_96 oC10 hl.1 rfl rfl (Nat.le_of_ble_eq_true rfl) ⟨Nat.le_of_ble_eq_true rfl, Nat.le_of_ble_eq_true rfl⟩ dX4_beginItself_6 ⟨Nat.zero_le _, Nat.zero_le _⟩ (fun H locs hw => ?_)
  refine lv_istore_n (lv' := [(3, .int r6), (0, .ref (oc 4)), (1, .int a1), (2, .int a2)]) hx hb dX4_beginItself_9 rfl hl (by decide) rfl (fun ls hl => ?_)
  refine lv_iload_n hx hb dX4_beginItself_10 rfl (lv_at hl 0 rfl) ?_
  refine lv_iconst (v := (-1)) hx hb dX4_beginItself_11 ci_m1 ?_
  refine lv_icmp_ne (tgt := 21) hx hb dX4_beginItself_12 (by decide) (fun hc => ?_) (fun hc => ?_)
  · have hm := it_f hc hm
    refine lv_aload_n hx hb dX4_beginItself_21 rfl (lv_at hl 1 rfl) ?_
    refine lv_iload_n hx hb dX4_beginItself_22 rfl (lv_at hl 0 rfl) ?_
    refine g_put C hw pC4_11 dX4_beginItself_23 (fun H locs hw => ?_)
    refine lv_aload_n hx hb dX4_beginItself_26 rfl (lv_at hl 1 rfl) ?_
    refine lv_aload_n hx hb dX4_beginItself_27 rfl (lv_at hl 1 rfl) ?_
    refine g_get C hw gC4_2 dX4_beginItself_28 ?_
    refine lv_iload_n hx hb dX4_beginItself_31 rfl (lv_at hl 2 rfl) ?_
    refine lv_iconst (v := 0) hx hb dX4_beginItself_32 ci_0 ?_
    obtain ⟨r33, iv33, ar33, la33, pA33, pB33, hc33, hm⟩ := obc_some hm
    refine g_calli (As := [.int a1, .int 0]) (rest := [.ref (oc 4)]) C hw (kX6_kidA hc33) mtX6_kid lkX4_109 oC6A hl.1 rfl rfl (Nat.le_of_ble_eq_true rfl) ⟨Nat.le_of_ble_eq_true rfl, Nat.le_of_ble_eq_true rfl⟩ dX4_beginItself_33 ⟨Nat.zero_le _, Nat.zero_le _⟩ (fun H locs hw => ?_)
    refine lv_aload_n hx hb dX4_beginItself_36 rfl (lv_at hl 1 rfl) ?_
    refine g_get C hw gC4_1 dX4_beginItself_37 ?_
    refine lv_iload_n hx hb dX4_beginItself_40 rfl (lv_at hl 0 rfl) ?_
    refine lv_iload_n hx hb dX4_beginItself_41 rfl (lv_at hl 3 rfl) ?_
    obtain ⟨r42, iv42, ar42, la42, pA42, pB42, hc42, hm⟩ := obc_some hm
    refine g_calli (As := [.int r6, .int a2]) (rest := [.int r33, .ref (oc 4)]) C hw (kX1_add hc42) mtX1_add lkX4_112 oC1 hl.1 rfl rfl (Nat.le_of_ble_eq_true rfl) ⟨Nat.le_of_ble_eq_true rfl, Nat.le_of_ble_eq_true rfl⟩ dX4_beginItself_42 ⟨Nat.zero_le _, Nat.zero_le _⟩ (fun H locs hw => ?_)
    obtain ⟨r45, iv45, ar45, la45, pA45, pB45, hc45, hm⟩ := obc_some hm
    refine g_callv (As := [.int r33, .int r42]) (rest := []) C hw (kX4_want hc45) mtX4_want lkX4_59 oC4 hl.1 rfl rfl (Nat.le_of_ble_eq_true rfl) ⟨Nat.le_of_ble_eq_true rfl, Nat.le_of_ble_eq_true rfl⟩ dX4_beginItself_45 ⟨Nat.zero_le _, Nat.zero_le _⟩ (fun H locs hw => ?_)
    cases hm
    exact g_vret C hw dX4_beginItself_48
  · have hm := it_t hc hm
    refine lv_aload_n hx hb dX4_beginItself_15 rfl (lv_at hl 1 rfl) ?_
    refine lv_iconst (v := (-1)) hx hb dX4_beginItself_16 ci_m1 ?_
    obtain ⟨r17, iv17, ar17, la17, pA17, pB17, hc17, hm⟩ := obc_some hm
    refine g_callv (As := [.int (-1)]) (rest := []) C hw (kX4_give hc17) mtX4_give lkX4_89 oC4 hl.1 rfl rfl (Nat.le_of_ble_eq_true rfl) ⟨Nat.le_of_ble_eq_true rfl, Nat.le_of_ble_eq_true rfl⟩ dX4_beginItself_17 ⟨Nat.zero_le _, Nat.zero_le _⟩ (fun H locs hw => ?_)
    cases hm
    exact g_vret C hw dX4_beginItself_20
def mX4_push (a1 : Int32) (a2 : Int32) (iv : mI) (ar : mA) (la : mL) (pA : mA) (pB : mA) : Option (Int32 × mI × mA × mL × mA × mA) := if 300 ≤ (iv 407) then some (0, iv, ar, la, pA, pB) else if (iv 407) < 0 ∨ 300 ≤ (iv 407).toNatClampNeg then none else if (iv 407) < 0 ∨ 300 ≤ (iv 407).toNatClampNeg then none else if (iv 407) < 0 ∨ 300 ≤ (iv 407).toNatClampNeg then none else some (0, va_up iv 407 ((iv 407) + 1), au (au (au ar 403 (iv 407).toNatClampNeg a1) 404 (iv 407).toNatClampNeg a2) 405 (iv 407).toNatClampNeg 0, la, pA, pB)
set_option maxRecDepth 100000 in
set_option maxHeartbeats 4000000 in
theorem kX4_push {a1 a2 : Int32} {iv ivz : mI} {ar arz : mA} {la laz : mL} {pA pAz : mA} {pB pBz : mA} {rz : Int32} (hm : mX4_push a1 a2 iv ar la pA pB = some (rz, ivz, arz, laz, pAz, pBz)) : CtV l D cI cJ yX4_push cX4_push 3 0 0 [.ref (oc 4), .int a1, .int a2] (wC cI cJ oc ac pa pb aa ab xp xs tp cp pa iv ar la pA pB) (wC cI cJ oc ac pa pb aa ab xp xs tp cp pa ivz arz laz pAz pBz) := by
  intro sz
  refine ct_of (by decide) (Nat.le_of_ble_eq_true rfl) ?_
  intro p e s m args below meth c C hw ls hl
  have hl : lv_has ls 3 [(0, .ref (oc 4)), (1, .int a1), (2, .int a2)] := hl
  have hx := C.1.1
  have hb := C.1.2.1
  unfold mX4_push at hm
  refine lv_aload_n hx hb dX4_push_0 rfl (lv_at hl 0 rfl) ?_
  refine g_get C hw gC4_7 dX4_push_1 ?_
  refine lv_sipush (v := 300) hx hb dX4_push_4 cs_300 ?_
  refine lv_icmp_ge (tgt := 50) hx hb dX4_push_7 (by decide) (fun hc => ?_) (fun hc => ?_)
  · have hm := it_t hc hm
    cases hm
    exact g_vret C hw dX4_push_50
  · have hm := it_f hc hm
    refine lv_aload_n hx hb dX4_push_10 rfl (lv_at hl 0 rfl) ?_
    refine g_get C hw gC4_3 dX4_push_11 ?_
    refine lv_aload_n hx hb dX4_push_14 rfl (lv_at hl 0 rfl) ?_
    refine g_get C hw gC4_7 dX4_push_15 ?_
    refine lv_iload_n hx hb dX4_push_18 rfl (lv_at hl 1 rfl) ?_
    obtain ⟨hi, hm⟩ := it_a hm
    refine g_ast C hw sC4_3 hi dX4_push_19 (fun H locs hw => ?_)
    refine lv_aload_n hx hb dX4_push_20 rfl (lv_at hl 0 rfl) ?_
    refine g_get C hw gC4_4 dX4_push_21 ?_
    refine lv_aload_n hx hb dX4_push_24 rfl (lv_at hl 0 rfl) ?_
    refine g_get C hw gC4_7 dX4_push_25 ?_
    refine lv_iload_n hx hb dX4_push_28 rfl (lv_at hl 2 rfl) ?_
    obtain ⟨hi, hm⟩ := it_a hm
    refine g_ast C hw sC4_4 hi dX4_push_29 (fun H locs hw => ?_)
    refine lv_aload_n hx hb dX4_push_30 rfl (lv_at hl 0 rfl) ?_
    refine g_get C hw gC4_5 dX4_push_31 ?_
    refine lv_aload_n hx hb dX4_push_34 rfl (lv_at hl 0 rfl) ?_
    refine g_get C hw gC4_7 dX4_push_35 ?_
    refine lv_iconst (v := 0) hx hb dX4_push_38 ci_0 ?_
    obtain ⟨hi, hm⟩ := it_a hm
    refine g_ast C hw sC4_5 hi dX4_push_39 (fun H locs hw => ?_)
    refine lv_aload_n hx hb dX4_push_40 rfl (lv_at hl 0 rfl) ?_
    refine lv_dup hx hb dX4_push_41 rfl ?_
    refine g_get C hw gC4_7 dX4_push_42 ?_
    refine lv_iconst (v := 1) hx hb dX4_push_45 ci_1 ?_
    refine lv_iadd hx hb dX4_push_46 ?_
    refine g_put C hw pC4_7 dX4_push_47 (fun H locs hw => ?_)
    cases hm
    exact g_vret C hw dX4_push_50
def mX4_beginOpen (a1 : Int32) (a2 : Int32) (iv : mI) (ar : mA) (la : mL) (pA : mA) (pB : mA) : Option (Int32 × mI × mA × mL × mA × mA) := obc (mX6_kidCountA a1 iv ar la pA pB) (fun r5 iv5 ar5 la5 pA5 pB5 => if r5 = 0 then obc (mX10_add 5 0 iv5 ar5 la5 pA5 pB5) (fun r18 iv18 ar18 la18 pA18 pB18 => obc (mX4_give r18 iv18 ar18 la18 pA18 pB18) (fun r21 iv21 ar21 la21 pA21 pB21 => some (0, iv21, ar21, la21, pA21, pB21))) else obc (mX4_push a1 a2 iv5 ar5 la5 pA5 pB5) (fun r28 iv28 ar28 la28 pA28 pB28 => obc (mX6_kidInTurnA a1 0 iv28 ar28 la28 pA28 pB28) (fun r38 iv38 ar38 la38 pA38 pB38 => obc (mX4_want r38 a2 iv38 ar38 la38 pA38 pB38) (fun r42 iv42 ar42 la42 pA42 pB42 => some (0, iv42, ar42, la42, pA42, pB42)))))
set_option maxRecDepth 100000 in
set_option maxHeartbeats 4000000 in
theorem kX4_beginOpen {a1 a2 : Int32} {iv ivz : mI} {ar arz : mA} {la laz : mL} {pA pAz : mA} {pB pBz : mA} {rz : Int32} (hm : mX4_beginOpen a1 a2 iv ar la pA pB = some (rz, ivz, arz, laz, pAz, pBz)) : CtV l D cI cJ yX4_beginOpen cX4_beginOpen 3 2 46 [.ref (oc 4), .int a1, .int a2] (wC cI cJ oc ac pa pb aa ab xp xs tp cp pa iv ar la pA pB) (wC cI cJ oc ac pa pb aa ab xp xs tp cp pa ivz arz laz pAz pBz) := by
  intro sz
  refine ct_of (by decide) (Nat.le_of_ble_eq_true rfl) ?_
  intro p e s m args below meth c C hw ls hl
  have hl : lv_has ls 3 [(0, .ref (oc 4)), (1, .int a1), (2, .int a2)] := hl
  have hx := C.1.1
  have hb := C.1.2.1
  unfold mX4_beginOpen at hm
  refine lv_aload_n hx hb dX4_beginOpen_0 rfl (lv_at hl 0 rfl) ?_
  refine g_get C hw gC4_2 dX4_beginOpen_1 ?_
  refine lv_iload_n hx hb dX4_beginOpen_4 rfl (lv_at hl 1 rfl) ?_
  obtain ⟨r5, iv5, ar5, la5, pA5, pB5, hc5, hm⟩ := obc_some hm
  refine g_calli (As := [.int a1]) (rest := []) C hw (kX6_kidCountA hc5) mtX6_kidCount lkX4_113 oC6A hl.1 rfl rfl (Nat.le_of_ble_eq_true rfl) ⟨Nat.le_of_ble_eq_true rfl, Nat.le_of_ble_eq_true rfl⟩ dX4_beginOpen_5 ⟨Nat.zero_le _, Nat.zero_le _⟩ (fun H locs hw => ?_)
  refine lv_if_ne (tgt := 25) hx hb dX4_beginOpen_8 (by decide) (fun hc => ?_) (fun hc => ?_)
  · have hm := it_f hc hm
    refine lv_aload_n hx hb dX4_beginOpen_25 rfl (lv_at hl 0 rfl) ?_
    refine lv_iload_n hx hb dX4_beginOpen_26 rfl (lv_at hl 1 rfl) ?_
    refine lv_iload_n hx hb dX4_beginOpen_27 rfl (lv_at hl 2 rfl) ?_
    obtain ⟨r28, iv28, ar28, la28, pA28, pB28, hc28, hm⟩ := obc_some hm
    refine g_callv (As := [.int a1, .int a2]) (rest := []) C hw (kX4_push hc28) mtX4_push lkX4_116 oC4 hl.1 rfl rfl (Nat.le_of_ble_eq_true rfl) ⟨Nat.le_of_ble_eq_true rfl, Nat.le_of_ble_eq_true rfl⟩ dX4_beginOpen_28 ⟨Nat.zero_le _, Nat.zero_le _⟩ (fun H locs hw => ?_)
    refine lv_aload_n hx hb dX4_beginOpen_31 rfl (lv_at hl 0 rfl) ?_
    refine lv_aload_n hx hb dX4_beginOpen_32 rfl (lv_at hl 0 rfl) ?_
    refine g_get C hw gC4_2 dX4_beginOpen_33 ?_
    refine lv_iload_n hx hb dX4_beginOpen_36 rfl (lv_at hl 1 rfl) ?_
    refine lv_iconst (v := 0) hx hb dX4_beginOpen_37 ci_0 ?_
    obtain ⟨r38, iv38, ar38, la38, pA38, pB38, hc38, hm⟩ := obc_some hm
    refine g_calli (As := [.int a1, .int 0]) (rest := [.ref (oc 4)]) C hw (kX6_kidInTurnA hc38) mtX6_kidInTurn lkX4_119 oC6A hl.1 rfl rfl (Nat.le_of_ble_eq_true rfl) ⟨Nat.le_of_ble_eq_true rfl, Nat.le_of_ble_eq_true rfl⟩ dX4_beginOpen_38 ⟨Nat.zero_le _, Nat.zero_le _⟩ (fun H locs hw => ?_)
    refine lv_iload_n hx hb dX4_beginOpen_41 rfl (lv_at hl 2 rfl) ?_
    obtain ⟨r42, iv42, ar42, la42, pA42, pB42, hc42, hm⟩ := obc_some hm
    refine g_callv (As := [.int r38, .int a2]) (rest := []) C hw (kX4_want hc42) mtX4_want lkX4_59 oC4 hl.1 rfl rfl (Nat.le_of_ble_eq_true rfl) ⟨Nat.le_of_ble_eq_true rfl, Nat.le_of_ble_eq_true rfl⟩ dX4_beginOpen_42 ⟨Nat.zero_le _, Nat.zero_le _⟩ (fun H locs hw => ?_)
    cases hm
    exact g_vret C hw dX4_beginOpen_45
  · have hm := it_t hc hm
    refine lv_aload_n hx hb dX4_beginOpen_11 rfl (lv_at hl 0 rfl) ?_
    refine lv_aload_n hx hb dX4_beginOpen_12 rfl (lv_at hl 0 rfl) ?_
    refine g_get C hw gC4_0 dX4_beginOpen_13 ?_
    refine lv_iconst (v := 5) hx hb dX4_beginOpen_16 ci_5 ?_
    refine lv_iconst (v := 0) hx hb dX4_beginOpen_17 ci_0 ?_
    obtain ⟨r18, iv18, ar18, la18, pA18, pB18, hc18, hm⟩ := obc_some hm
    refine g_calli (As := [.int 5, .int 0]) (rest := [.ref (oc 4)]) C hw (kX10_add hc18) mtX10_add lkX4_96 oC10 hl.1 rfl rfl (Nat.le_of_ble_eq_true rfl) ⟨Nat.le_of_ble_eq_true rfl, Nat.le_of_ble_eq_true rfl⟩ dX4_beginOpen_18 ⟨Nat.zero_le _, Nat.zero_le _⟩ (fun H locs hw => ?_)
    obtain ⟨r21, iv21, ar21, la21, pA21, pB21, hc21, hm⟩ := obc_some hm
    refine g_callv (As := [.int r18]) (rest := []) C hw (kX4_give hc21) mtX4_give lkX4_89 oC4 hl.1 rfl rfl (Nat.le_of_ble_eq_true rfl) ⟨Nat.le_of_ble_eq_true rfl, Nat.le_of_ble_eq_true rfl⟩ dX4_beginOpen_21 ⟨Nat.zero_le _, Nat.zero_le _⟩ (fun H locs hw => ?_)
    cases hm
    exact g_vret C hw dX4_beginOpen_24
def mX4_begin (a1 : Int32) (a2 : Int32) (iv : mI) (ar : mA) (la : mL) (pA : mA) (pB : mA) : Option (Int32 × mI × mA × mL × mA × mA) := obc (mX6_wordA a1 iv ar la pA pB) (fun r5 iv5 ar5 la5 pA5 pB5 => if r5 = 20 then obc (mX6_wordA (a1 + 1) iv5 ar5 la5 pA5 pB5) (fun r93 iv93 ar93 la93 pA93 pB93 => obc (mX1_valueAt a2 r93 iv93 ar93 la93 pA93 pB93) (fun r96 iv96 ar96 la96 pA96 pB96 => obc (mX4_give r96 iv96 ar96 la96 pA96 pB96) (fun r99 iv99 ar99 la99 pA99 pB99 => some (0, iv99, ar99, la99, pA99, pB99)))) else if r5 = 21 then obc (mX4_beginLambda a1 a2 iv5 ar5 la5 pA5 pB5) (fun r108 iv108 ar108 la108 pA108 pB108 => some (0, iv108, ar108, la108, pA108, pB108)) else if r5 = 22 then obc (mX4_beginOpen a1 a2 iv5 ar5 la5 pA5 pB5) (fun r183 iv183 ar183 la183 pA183 pB183 => some (0, iv183, ar183, la183, pA183, pB183)) else if r5 = 23 then obc (mX6_wordA (a1 + 1) iv5 ar5 la5 pA5 pB5) (fun r127 iv127 ar127 la127 pA127 pB127 => obc (mX10_add 2 r127 iv127 ar127 la127 pA127 pB127) (fun r130 iv130 ar130 la130 pA130 pB130 => obc (mX4_give r130 iv130 ar130 la130 pA130 pB130) (fun r133 iv133 ar133 la133 pA133 pB133 => some (0, iv133, ar133, la133, pA133, pB133)))) else if r5 = 24 then obc (mX4_beginOpen a1 a2 iv5 ar5 la5 pA5 pB5) (fun r183 iv183 ar183 la183 pA183 pB183 => some (0, iv183, ar183, la183, pA183, pB183)) else if r5 = 25 then obc (mX4_beginOpen a1 a2 iv5 ar5 la5 pA5 pB5) (fun r183 iv183 ar183 la183 pA183 pB183 => some (0, iv183, ar183, la183, pA183, pB183)) else if r5 = 26 then obc (mX10_add 3 1 iv5 ar5 la5 pA5 pB5) (fun r146 iv146 ar146 la146 pA146 pB146 => obc (mX4_give r146 iv146 ar146 la146 pA146 pB146) (fun r149 iv149 ar149 la149 pA149 pB149 => some (0, iv149, ar149, la149, pA149, pB149))) else if r5 = 27 then obc (mX10_add 3 0 iv5 ar5 la5 pA5 pB5) (fun r162 iv162 ar162 la162 pA162 pB162 => obc (mX4_give r162 iv162 ar162 la162 pA162 pB162) (fun r165 iv165 ar165 la165 pA165 pB165 => some (0, iv165, ar165, la165, pA165, pB165))) else if r5 = 28 then obc (mX4_beginOpen a1 a2 iv5 ar5 la5 pA5 pB5) (fun r183 iv183 ar183 la183 pA183 pB183 => some (0, iv183, ar183, la183, pA183, pB183)) else if r5 = 29 then obc (mX4_beginOpen a1 a2 iv5 ar5 la5 pA5 pB5) (fun r183 iv183 ar183 la183 pA183 pB183 => some (0, iv183, ar183, la183, pA183, pB183)) else if r5 = 30 then obc (mX4_beginOpen a1 a2 iv5 ar5 la5 pA5 pB5) (fun r183 iv183 ar183 la183 pA183 pB183 => some (0, iv183, ar183, la183, pA183, pB183)) else if r5 = 31 then obc (mX4_beginOpen a1 a2 iv5 ar5 la5 pA5 pB5) (fun r183 iv183 ar183 la183 pA183 pB183 => some (0, iv183, ar183, la183, pA183, pB183)) else if r5 = 32 then obc (mX4_beginOpen a1 a2 iv5 ar5 la5 pA5 pB5) (fun r183 iv183 ar183 la183 pA183 pB183 => some (0, iv183, ar183, la183, pA183, pB183)) else if r5 = 33 then obc (mX4_beginItself a1 a2 iv5 ar5 la5 pA5 pB5) (fun r174 iv174 ar174 la174 pA174 pB174 => some (0, iv174, ar174, la174, pA174, pB174)) else obc (mX4_beginOpen a1 a2 iv5 ar5 la5 pA5 pB5) (fun r183 iv183 ar183 la183 pA183 pB183 => some (0, iv183, ar183, la183, pA183, pB183)))
set_option maxRecDepth 100000 in
set_option maxHeartbeats 4000000 in
theorem kX4_begin {a1 a2 : Int32} {iv ivz : mI} {ar arz : mA} {la laz : mL} {pA pAz : mA} {pB pBz : mA} {rz : Int32} (hm : mX4_begin a1 a2 iv ar la pA pB = some (rz, ivz, arz, laz, pAz, pBz)) : CtV l D cI cJ yX4_begin cX4_begin 3 3 68 [.ref (oc 4), .int a1, .int a2] (wC cI cJ oc ac pa pb aa ab xp xs tp cp pa iv ar la pA pB) (wC cI cJ oc ac pa pb aa ab xp xs tp cp pa ivz arz laz pAz pBz) := by
  intro sz
  refine ct_of (by decide) (Nat.le_of_ble_eq_true rfl) ?_
  intro p e s m args below meth c C hw ls hl
  have hl : lv_has ls 3 [(0, .ref (oc 4)), (1, .int a1), (2, .int a2)] := hl
  have hx := C.1.1
  have hb := C.1.2.1
  unfold mX4_begin at hm
  refine lv_aload_n hx hb dX4_begin_0 rfl (lv_at hl 0 rfl) ?_
  refine g_get C hw gC4_2 dX4_begin_1 ?_
  refine lv_iload_n hx hb dX4_begin_4 rfl (lv_at hl 1 rfl) ?_
  obtain ⟨r5, iv5, ar5, la5, pA5, pB5, hc5, hm⟩ := obc_some hm
  refine g_calli (As := [.int a1]) (rest := []) C hw (kX6_wordA hc5) mtX6_word lkX4_79 oC6A hl.1 rfl rfl (Nat.le_of_ble_eq_true rfl) ⟨Nat.le_of_ble_eq_true rfl, Nat.le_of_ble_eq_true rfl⟩ dX4_begin_5 ⟨Nat.zero_le _, Nat.zero_le _⟩ (fun H locs hw => ?_)
  refine br_by (c := r5 = 20) (fun hc => ?_) (fun hc20 => ?_)
  · have hm := it_t hc hm
    refine lv_tableIn (off := 72) (tgt := 80) hx hb dX4_begin_8 (by rw [hc]; decide) (by rw [hc]; decide) (by rw [hc]; rfl) (by decide) ?_
    refine lv_aload_n hx hb dX4_begin_80 rfl (lv_at hl 0 rfl) ?_
    refine lv_aload_n hx hb dX4_begin_81 rfl (lv_at hl 0 rfl) ?_
    refine g_get C hw gC4_1 dX4_begin_82 ?_
    refine lv_iload_n hx hb dX4_begin_85 rfl (lv_at hl 2 rfl) ?_
    refine lv_aload_n hx hb dX4_begin_86 rfl (lv_at hl 0 rfl) ?_
    refine g_get C hw gC4_2 dX4_begin_87 ?_
    refine lv_iload_n hx hb dX4_begin_90 rfl (lv_at hl 1 rfl) ?_
    refine lv_iconst (v := 1) hx hb dX4_begin_91 ci_1 ?_
    refine lv_iadd hx hb dX4_begin_92 ?_
    obtain ⟨r93, iv93, ar93, la93, pA93, pB93, hc93, hm⟩ := obc_some hm
    refine g_calli (As := [.int (a1 + 1)]) (rest := [.int a2, .ref (oc 1), .ref (oc 4)]) C hw (kX6_wordA hc93) mtX6_word lkX4_79 oC6A hl.1 rfl rfl (Nat.le_of_ble_eq_true rfl) ⟨Nat.le_of_ble_eq_true rfl, Nat.le_of_ble_eq_true rfl⟩ dX4_begin_93 ⟨Nat.zero_le _, Nat.zero_le _⟩ (fun H locs hw => ?_)
    obtain ⟨r96, iv96, ar96, la96, pA96, pB96, hc96, hm⟩ := obc_some hm
    refine g_calli (As := [.int a2, .int r93]) (rest := [.ref (oc 4)]) C hw (kX1_valueAt hc96) mtX1_valueAt lkX4_85 oC1 hl.1 rfl rfl (Nat.le_of_ble_eq_true rfl) ⟨Nat.le_of_ble_eq_true rfl, Nat.le_of_ble_eq_true rfl⟩ dX4_begin_96 ⟨Nat.zero_le _, Nat.zero_le _⟩ (fun H locs hw => ?_)
    obtain ⟨r99, iv99, ar99, la99, pA99, pB99, hc99, hm⟩ := obc_some hm
    refine g_callv (As := [.int r96]) (rest := []) C hw (kX4_give hc99) mtX4_give lkX4_89 oC4 hl.1 rfl rfl (Nat.le_of_ble_eq_true rfl) ⟨Nat.le_of_ble_eq_true rfl, Nat.le_of_ble_eq_true rfl⟩ dX4_begin_99 ⟨Nat.zero_le _, Nat.zero_le _⟩ (fun H locs hw => ?_)
    refine lv_goto (tgt := 186) hx hb dX4_begin_102 (by decide) ?_
    cases hm
    exact g_vret C hw dX4_begin_186
  · have hm := it_f hc20 hm
    refine br_by (c := r5 = 21) (fun hc => ?_) (fun hc21 => ?_)
    · have hm := it_t hc hm
      refine lv_tableIn (off := 97) (tgt := 105) hx hb dX4_begin_8 (by rw [hc]; decide) (by rw [hc]; decide) (by rw [hc]; rfl) (by decide) ?_
      refine lv_aload_n hx hb dX4_begin_105 rfl (lv_at hl 0 rfl) ?_
      refine lv_iload_n hx hb dX4_begin_106 rfl (lv_at hl 1 rfl) ?_
      refine lv_iload_n hx hb dX4_begin_107 rfl (lv_at hl 2 rfl) ?_
      obtain ⟨r108, iv108, ar108, la108, pA108, pB108, hc108, hm⟩ := obc_some hm
      refine g_callv (As := [.int a1, .int a2]) (rest := []) C hw (kX4_beginLambda hc108) mtX4_beginLambda lkX4_93 oC4 hl.1 rfl rfl (Nat.le_of_ble_eq_true rfl) ⟨Nat.le_of_ble_eq_true rfl, Nat.le_of_ble_eq_true rfl⟩ dX4_begin_108 ⟨Nat.zero_le _, Nat.zero_le _⟩ (fun H locs hw => ?_)
      refine lv_goto (tgt := 186) hx hb dX4_begin_111 (by decide) ?_
      cases hm
      exact g_vret C hw dX4_begin_186
    · have hm := it_f hc21 hm
      refine br_by (c := r5 = 22) (fun hc => ?_) (fun hc22 => ?_)
      · have hm := it_t hc hm
        refine lv_tableIn (off := 172) (tgt := 180) hx hb dX4_begin_8 (by rw [hc]; decide) (by rw [hc]; decide) (by rw [hc]; rfl) (by decide) ?_
        refine lv_aload_n hx hb dX4_begin_180 rfl (lv_at hl 0 rfl) ?_
        refine lv_iload_n hx hb dX4_begin_181 rfl (lv_at hl 1 rfl) ?_
        refine lv_iload_n hx hb dX4_begin_182 rfl (lv_at hl 2 rfl) ?_
        obtain ⟨r183, iv183, ar183, la183, pA183, pB183, hc183, hm⟩ := obc_some hm
        refine g_callv (As := [.int a1, .int a2]) (rest := []) C hw (kX4_beginOpen hc183) mtX4_beginOpen lkX4_102 oC4 hl.1 rfl rfl (Nat.le_of_ble_eq_true rfl) ⟨Nat.le_of_ble_eq_true rfl, Nat.le_of_ble_eq_true rfl⟩ dX4_begin_183 ⟨Nat.zero_le _, Nat.zero_le _⟩ (fun H locs hw => ?_)
        cases hm
        exact g_vret C hw dX4_begin_186
      · have hm := it_f hc22 hm
        refine br_by (c := r5 = 23) (fun hc => ?_) (fun hc23 => ?_)
        · have hm := it_t hc hm
          refine lv_tableIn (off := 106) (tgt := 114) hx hb dX4_begin_8 (by rw [hc]; decide) (by rw [hc]; decide) (by rw [hc]; rfl) (by decide) ?_
          refine lv_aload_n hx hb dX4_begin_114 rfl (lv_at hl 0 rfl) ?_
          refine lv_aload_n hx hb dX4_begin_115 rfl (lv_at hl 0 rfl) ?_
          refine g_get C hw gC4_0 dX4_begin_116 ?_
          refine lv_iconst (v := 2) hx hb dX4_begin_119 ci_2 ?_
          refine lv_aload_n hx hb dX4_begin_120 rfl (lv_at hl 0 rfl) ?_
          refine g_get C hw gC4_2 dX4_begin_121 ?_
          refine lv_iload_n hx hb dX4_begin_124 rfl (lv_at hl 1 rfl) ?_
          refine lv_iconst (v := 1) hx hb dX4_begin_125 ci_1 ?_
          refine lv_iadd hx hb dX4_begin_126 ?_
          obtain ⟨r127, iv127, ar127, la127, pA127, pB127, hc127, hm⟩ := obc_some hm
          refine g_calli (As := [.int (a1 + 1)]) (rest := [.int 2, .ref (oc 10), .ref (oc 4)]) C hw (kX6_wordA hc127) mtX6_word lkX4_79 oC6A hl.1 rfl rfl (Nat.le_of_ble_eq_true rfl) ⟨Nat.le_of_ble_eq_true rfl, Nat.le_of_ble_eq_true rfl⟩ dX4_begin_127 ⟨Nat.zero_le _, Nat.zero_le _⟩ (fun H locs hw => ?_)
          obtain ⟨r130, iv130, ar130, la130, pA130, pB130, hc130, hm⟩ := obc_some hm
          refine g_calli (As := [.int 2, .int r127]) (rest := [.ref (oc 4)]) C hw (kX10_add hc130) mtX10_add lkX4_96 oC10 hl.1 rfl rfl (Nat.le_of_ble_eq_true rfl) ⟨Nat.le_of_ble_eq_true rfl, Nat.le_of_ble_eq_true rfl⟩ dX4_begin_130 ⟨Nat.zero_le _, Nat.zero_le _⟩ (fun H locs hw => ?_)
          obtain ⟨r133, iv133, ar133, la133, pA133, pB133, hc133, hm⟩ := obc_some hm
          refine g_callv (As := [.int r130]) (rest := []) C hw (kX4_give hc133) mtX4_give lkX4_89 oC4 hl.1 rfl rfl (Nat.le_of_ble_eq_true rfl) ⟨Nat.le_of_ble_eq_true rfl, Nat.le_of_ble_eq_true rfl⟩ dX4_begin_133 ⟨Nat.zero_le _, Nat.zero_le _⟩ (fun H locs hw => ?_)
          refine lv_goto (tgt := 186) hx hb dX4_begin_136 (by decide) ?_
          cases hm
          exact g_vret C hw dX4_begin_186
        · have hm := it_f hc23 hm
          refine br_by (c := r5 = 24) (fun hc => ?_) (fun hc24 => ?_)
          · have hm := it_t hc hm
            refine lv_tableIn (off := 172) (tgt := 180) hx hb dX4_begin_8 (by rw [hc]; decide) (by rw [hc]; decide) (by rw [hc]; rfl) (by decide) ?_
            refine lv_aload_n hx hb dX4_begin_180 rfl (lv_at hl 0 rfl) ?_
            refine lv_iload_n hx hb dX4_begin_181 rfl (lv_at hl 1 rfl) ?_
            refine lv_iload_n hx hb dX4_begin_182 rfl (lv_at hl 2 rfl) ?_
            obtain ⟨r183, iv183, ar183, la183, pA183, pB183, hc183, hm⟩ := obc_some hm
            refine g_callv (As := [.int a1, .int a2]) (rest := []) C hw (kX4_beginOpen hc183) mtX4_beginOpen lkX4_102 oC4 hl.1 rfl rfl (Nat.le_of_ble_eq_true rfl) ⟨Nat.le_of_ble_eq_true rfl, Nat.le_of_ble_eq_true rfl⟩ dX4_begin_183 ⟨Nat.zero_le _, Nat.zero_le _⟩ (fun H locs hw => ?_)
            cases hm
            exact g_vret C hw dX4_begin_186
          · have hm := it_f hc24 hm
            refine br_by (c := r5 = 25) (fun hc => ?_) (fun hc25 => ?_)
            · have hm := it_t hc hm
              refine lv_tableIn (off := 172) (tgt := 180) hx hb dX4_begin_8 (by rw [hc]; decide) (by rw [hc]; decide) (by rw [hc]; rfl) (by decide) ?_
              refine lv_aload_n hx hb dX4_begin_180 rfl (lv_at hl 0 rfl) ?_
              refine lv_iload_n hx hb dX4_begin_181 rfl (lv_at hl 1 rfl) ?_
              refine lv_iload_n hx hb dX4_begin_182 rfl (lv_at hl 2 rfl) ?_
              obtain ⟨r183, iv183, ar183, la183, pA183, pB183, hc183, hm⟩ := obc_some hm
              refine g_callv (As := [.int a1, .int a2]) (rest := []) C hw (kX4_beginOpen hc183) mtX4_beginOpen lkX4_102 oC4 hl.1 rfl rfl (Nat.le_of_ble_eq_true rfl) ⟨Nat.le_of_ble_eq_true rfl, Nat.le_of_ble_eq_true rfl⟩ dX4_begin_183 ⟨Nat.zero_le _, Nat.zero_le _⟩ (fun H locs hw => ?_)
              cases hm
              exact g_vret C hw dX4_begin_186
            · have hm := it_f hc25 hm
              refine br_by (c := r5 = 26) (fun hc => ?_) (fun hc26 => ?_)
              · have hm := it_t hc hm
                refine lv_tableIn (off := 131) (tgt := 139) hx hb dX4_begin_8 (by rw [hc]; decide) (by rw [hc]; decide) (by rw [hc]; rfl) (by decide) ?_
                refine lv_aload_n hx hb dX4_begin_139 rfl (lv_at hl 0 rfl) ?_
                refine lv_aload_n hx hb dX4_begin_140 rfl (lv_at hl 0 rfl) ?_
                refine g_get C hw gC4_0 dX4_begin_141 ?_
                refine lv_iconst (v := 3) hx hb dX4_begin_144 ci_3 ?_
                refine lv_iconst (v := 1) hx hb dX4_begin_145 ci_1 ?_
                obtain ⟨r146, iv146, ar146, la146, pA146, pB146, hc146, hm⟩ := obc_some hm
                refine g_calli (As := [.int 3, .int 1]) (rest := [.ref (oc 4)]) C hw (kX10_add hc146) mtX10_add lkX4_96 oC10 hl.1 rfl rfl (Nat.le_of_ble_eq_true rfl) ⟨Nat.le_of_ble_eq_true rfl, Nat.le_of_ble_eq_true rfl⟩ dX4_begin_146 ⟨Nat.zero_le _, Nat.zero_le _⟩ (fun H locs hw => ?_)
                obtain ⟨r149, iv149, ar149, la149, pA149, pB149, hc149, hm⟩ := obc_some hm
                refine g_callv (As := [.int r146]) (rest := []) C hw (kX4_give hc149) mtX4_give lkX4_89 oC4 hl.1 rfl rfl (Nat.le_of_ble_eq_true rfl) ⟨Nat.le_of_ble_eq_true rfl, Nat.le_of_ble_eq_true rfl⟩ dX4_begin_149 ⟨Nat.zero_le _, Nat.zero_le _⟩ (fun H locs hw => ?_)
                refine lv_goto (tgt := 186) hx hb dX4_begin_152 (by decide) ?_
                cases hm
                exact g_vret C hw dX4_begin_186
              · have hm := it_f hc26 hm
                refine br_by (c := r5 = 27) (fun hc => ?_) (fun hc27 => ?_)
                · have hm := it_t hc hm
                  refine lv_tableIn (off := 147) (tgt := 155) hx hb dX4_begin_8 (by rw [hc]; decide) (by rw [hc]; decide) (by rw [hc]; rfl) (by decide) ?_
                  refine lv_aload_n hx hb dX4_begin_155 rfl (lv_at hl 0 rfl) ?_
                  refine lv_aload_n hx hb dX4_begin_156 rfl (lv_at hl 0 rfl) ?_
                  refine g_get C hw gC4_0 dX4_begin_157 ?_
                  refine lv_iconst (v := 3) hx hb dX4_begin_160 ci_3 ?_
                  refine lv_iconst (v := 0) hx hb dX4_begin_161 ci_0 ?_
                  obtain ⟨r162, iv162, ar162, la162, pA162, pB162, hc162, hm⟩ := obc_some hm
                  refine g_calli (As := [.int 3, .int 0]) (rest := [.ref (oc 4)]) C hw (kX10_add hc162) mtX10_add lkX4_96 oC10 hl.1 rfl rfl (Nat.le_of_ble_eq_true rfl) ⟨Nat.le_of_ble_eq_true rfl, Nat.le_of_ble_eq_true rfl⟩ dX4_begin_162 ⟨Nat.zero_le _, Nat.zero_le _⟩ (fun H locs hw => ?_)
                  obtain ⟨r165, iv165, ar165, la165, pA165, pB165, hc165, hm⟩ := obc_some hm
                  refine g_callv (As := [.int r162]) (rest := []) C hw (kX4_give hc165) mtX4_give lkX4_89 oC4 hl.1 rfl rfl (Nat.le_of_ble_eq_true rfl) ⟨Nat.le_of_ble_eq_true rfl, Nat.le_of_ble_eq_true rfl⟩ dX4_begin_165 ⟨Nat.zero_le _, Nat.zero_le _⟩ (fun H locs hw => ?_)
                  refine lv_goto (tgt := 186) hx hb dX4_begin_168 (by decide) ?_
                  cases hm
                  exact g_vret C hw dX4_begin_186
                · have hm := it_f hc27 hm
                  refine br_by (c := r5 = 28) (fun hc => ?_) (fun hc28 => ?_)
                  · have hm := it_t hc hm
                    refine lv_tableIn (off := 172) (tgt := 180) hx hb dX4_begin_8 (by rw [hc]; decide) (by rw [hc]; decide) (by rw [hc]; rfl) (by decide) ?_
                    refine lv_aload_n hx hb dX4_begin_180 rfl (lv_at hl 0 rfl) ?_
                    refine lv_iload_n hx hb dX4_begin_181 rfl (lv_at hl 1 rfl) ?_
                    refine lv_iload_n hx hb dX4_begin_182 rfl (lv_at hl 2 rfl) ?_
                    obtain ⟨r183, iv183, ar183, la183, pA183, pB183, hc183, hm⟩ := obc_some hm
                    refine g_callv (As := [.int a1, .int a2]) (rest := []) C hw (kX4_beginOpen hc183) mtX4_beginOpen lkX4_102 oC4 hl.1 rfl rfl (Nat.le_of_ble_eq_true rfl) ⟨Nat.le_of_ble_eq_true rfl, Nat.le_of_ble_eq_true rfl⟩ dX4_begin_183 ⟨Nat.zero_le _, Nat.zero_le _⟩ (fun H locs hw => ?_)
                    cases hm
                    exact g_vret C hw dX4_begin_186
                  · have hm := it_f hc28 hm
                    refine br_by (c := r5 = 29) (fun hc => ?_) (fun hc29 => ?_)
                    · have hm := it_t hc hm
                      refine lv_tableIn (off := 172) (tgt := 180) hx hb dX4_begin_8 (by rw [hc]; decide) (by rw [hc]; decide) (by rw [hc]; rfl) (by decide) ?_
                      refine lv_aload_n hx hb dX4_begin_180 rfl (lv_at hl 0 rfl) ?_
                      refine lv_iload_n hx hb dX4_begin_181 rfl (lv_at hl 1 rfl) ?_
                      refine lv_iload_n hx hb dX4_begin_182 rfl (lv_at hl 2 rfl) ?_
                      obtain ⟨r183, iv183, ar183, la183, pA183, pB183, hc183, hm⟩ := obc_some hm
                      refine g_callv (As := [.int a1, .int a2]) (rest := []) C hw (kX4_beginOpen hc183) mtX4_beginOpen lkX4_102 oC4 hl.1 rfl rfl (Nat.le_of_ble_eq_true rfl) ⟨Nat.le_of_ble_eq_true rfl, Nat.le_of_ble_eq_true rfl⟩ dX4_begin_183 ⟨Nat.zero_le _, Nat.zero_le _⟩ (fun H locs hw => ?_)
                      cases hm
                      exact g_vret C hw dX4_begin_186
                    · have hm := it_f hc29 hm
                      refine br_by (c := r5 = 30) (fun hc => ?_) (fun hc30 => ?_)
                      · have hm := it_t hc hm
                        refine lv_tableIn (off := 172) (tgt := 180) hx hb dX4_begin_8 (by rw [hc]; decide) (by rw [hc]; decide) (by rw [hc]; rfl) (by decide) ?_
                        refine lv_aload_n hx hb dX4_begin_180 rfl (lv_at hl 0 rfl) ?_
                        refine lv_iload_n hx hb dX4_begin_181 rfl (lv_at hl 1 rfl) ?_
                        refine lv_iload_n hx hb dX4_begin_182 rfl (lv_at hl 2 rfl) ?_
                        obtain ⟨r183, iv183, ar183, la183, pA183, pB183, hc183, hm⟩ := obc_some hm
                        refine g_callv (As := [.int a1, .int a2]) (rest := []) C hw (kX4_beginOpen hc183) mtX4_beginOpen lkX4_102 oC4 hl.1 rfl rfl (Nat.le_of_ble_eq_true rfl) ⟨Nat.le_of_ble_eq_true rfl, Nat.le_of_ble_eq_true rfl⟩ dX4_begin_183 ⟨Nat.zero_le _, Nat.zero_le _⟩ (fun H locs hw => ?_)
                        cases hm
                        exact g_vret C hw dX4_begin_186
                      · have hm := it_f hc30 hm
                        refine br_by (c := r5 = 31) (fun hc => ?_) (fun hc31 => ?_)
                        · have hm := it_t hc hm
                          refine lv_tableIn (off := 172) (tgt := 180) hx hb dX4_begin_8 (by rw [hc]; decide) (by rw [hc]; decide) (by rw [hc]; rfl) (by decide) ?_
                          refine lv_aload_n hx hb dX4_begin_180 rfl (lv_at hl 0 rfl) ?_
                          refine lv_iload_n hx hb dX4_begin_181 rfl (lv_at hl 1 rfl) ?_
                          refine lv_iload_n hx hb dX4_begin_182 rfl (lv_at hl 2 rfl) ?_
                          obtain ⟨r183, iv183, ar183, la183, pA183, pB183, hc183, hm⟩ := obc_some hm
                          refine g_callv (As := [.int a1, .int a2]) (rest := []) C hw (kX4_beginOpen hc183) mtX4_beginOpen lkX4_102 oC4 hl.1 rfl rfl (Nat.le_of_ble_eq_true rfl) ⟨Nat.le_of_ble_eq_true rfl, Nat.le_of_ble_eq_true rfl⟩ dX4_begin_183 ⟨Nat.zero_le _, Nat.zero_le _⟩ (fun H locs hw => ?_)
                          cases hm
                          exact g_vret C hw dX4_begin_186
                        · have hm := it_f hc31 hm
                          refine br_by (c := r5 = 32) (fun hc => ?_) (fun hc32 => ?_)
                          · have hm := it_t hc hm
                            refine lv_tableIn (off := 172) (tgt := 180) hx hb dX4_begin_8 (by rw [hc]; decide) (by rw [hc]; decide) (by rw [hc]; rfl) (by decide) ?_
                            refine lv_aload_n hx hb dX4_begin_180 rfl (lv_at hl 0 rfl) ?_
                            refine lv_iload_n hx hb dX4_begin_181 rfl (lv_at hl 1 rfl) ?_
                            refine lv_iload_n hx hb dX4_begin_182 rfl (lv_at hl 2 rfl) ?_
                            obtain ⟨r183, iv183, ar183, la183, pA183, pB183, hc183, hm⟩ := obc_some hm
                            refine g_callv (As := [.int a1, .int a2]) (rest := []) C hw (kX4_beginOpen hc183) mtX4_beginOpen lkX4_102 oC4 hl.1 rfl rfl (Nat.le_of_ble_eq_true rfl) ⟨Nat.le_of_ble_eq_true rfl, Nat.le_of_ble_eq_true rfl⟩ dX4_begin_183 ⟨Nat.zero_le _, Nat.zero_le _⟩ (fun H locs hw => ?_)
                            cases hm
                            exact g_vret C hw dX4_begin_186
                          · have hm := it_f hc32 hm
                            refine br_by (c := r5 = 33) (fun hc => ?_) (fun hc33 => ?_)
                            · have hm := it_t hc hm
                              refine lv_tableIn (off := 163) (tgt := 171) hx hb dX4_begin_8 (by rw [hc]; decide) (by rw [hc]; decide) (by rw [hc]; rfl) (by decide) ?_
                              refine lv_aload_n hx hb dX4_begin_171 rfl (lv_at hl 0 rfl) ?_
                              refine lv_iload_n hx hb dX4_begin_172 rfl (lv_at hl 1 rfl) ?_
                              refine lv_iload_n hx hb dX4_begin_173 rfl (lv_at hl 2 rfl) ?_
                              obtain ⟨r174, iv174, ar174, la174, pA174, pB174, hc174, hm⟩ := obc_some hm
                              refine g_callv (As := [.int a1, .int a2]) (rest := []) C hw (kX4_beginItself hc174) mtX4_beginItself lkX4_99 oC4 hl.1 rfl rfl (Nat.le_of_ble_eq_true rfl) ⟨Nat.le_of_ble_eq_true rfl, Nat.le_of_ble_eq_true rfl⟩ dX4_begin_174 ⟨Nat.zero_le _, Nat.zero_le _⟩ (fun H locs hw => ?_)
                              refine lv_goto (tgt := 186) hx hb dX4_begin_177 (by decide) ?_
                              cases hm
                              exact g_vret C hw dX4_begin_186
                            · have hm := it_f hc33 hm
                              have ho : (r5).toInt < 20 ∨ 33 < (r5).toInt := by
                                have ehc20 := sw_ne (n := 20) hc20 (by decide)
                                have ehc21 := sw_ne (n := 21) hc21 (by decide)
                                have ehc22 := sw_ne (n := 22) hc22 (by decide)
                                have ehc23 := sw_ne (n := 23) hc23 (by decide)
                                have ehc24 := sw_ne (n := 24) hc24 (by decide)
                                have ehc25 := sw_ne (n := 25) hc25 (by decide)
                                have ehc26 := sw_ne (n := 26) hc26 (by decide)
                                have ehc27 := sw_ne (n := 27) hc27 (by decide)
                                have ehc28 := sw_ne (n := 28) hc28 (by decide)
                                have ehc29 := sw_ne (n := 29) hc29 (by decide)
                                have ehc30 := sw_ne (n := 30) hc30 (by decide)
                                have ehc31 := sw_ne (n := 31) hc31 (by decide)
                                have ehc32 := sw_ne (n := 32) hc32 (by decide)
                                have ehc33 := sw_ne (n := 33) hc33 (by decide)
                                omega
                              refine lv_tableOut (tgt := 180) hx hb dX4_begin_8 ho (by decide) ?_
                              refine lv_aload_n hx hb dX4_begin_180 rfl (lv_at hl 0 rfl) ?_
                              refine lv_iload_n hx hb dX4_begin_181 rfl (lv_at hl 1 rfl) ?_
                              refine lv_iload_n hx hb dX4_begin_182 rfl (lv_at hl 2 rfl) ?_
                              obtain ⟨r183, iv183, ar183, la183, pA183, pB183, hc183, hm⟩ := obc_some hm
                              refine g_callv (As := [.int a1, .int a2]) (rest := []) C hw (kX4_beginOpen hc183) mtX4_beginOpen lkX4_102 oC4 hl.1 rfl rfl (Nat.le_of_ble_eq_true rfl) ⟨Nat.le_of_ble_eq_true rfl, Nat.le_of_ble_eq_true rfl⟩ dX4_begin_183 ⟨Nat.zero_le _, Nat.zero_le _⟩ (fun H locs hw => ?_)
                              cases hm
                              exact g_vret C hw dX4_begin_186
def mX4_perform_J108 (k22 : Int32 → Int32 → mI → mA → mL → mA → mA → Option (Int32 × mI × mA × mL × mA × mA)) (l2 : Int32) (l3 : Int32) (iv : mI) (ar : mA) (la : mL) (pA : mA) (pB : mA) : Option (Int32 × mI × mA × mL × mA × mA) := if (iv 409) = (-1) then if (iv 412) = (-1) then some ((-16), iv, ar, la, pA, pB) else k22 l2 (l3 + 1) iv ar la pA pB else k22 l2 (l3 + 1) iv ar la pA pB
set_option maxRecDepth 100000 in
set_option maxHeartbeats 4000000 in
theorem wX4_perform_J108 {k22 : Int32 → Int32 → mI → mA → mL → mA → mA → Option (Int32 × mI × mA × mL × mA × mA)} (C : mCx p s m args meth c RX4 cX4_perform 4 (some .int) D cI cJ A) (hk22 : ∀ (l2 : Int32) (l3 : Int32) (iv : mI) (ar : mA) (la : mL) (pA : mA) (pB : mA) (rz : Int32) (ivz : mI) (arz : mA) (laz : mL) (pAz : mA) (pBz : mA), k22 l2 l3 iv ar la pA pB = some (rz, ivz, arz, laz, pAz, pBz) → ∀ (H : Heap) (locs : List Loc) (ls : Array Slot), lv_has ls 4 [(0, .ref (oc 4)), (2, .int l2), (3, .int l3)] → inW D A s (wC cI cJ oc ac pa pb aa ab xp xs tp cp pa iv ar la pA pB) H locs → W p l e (rmO 5 114) s m args below meth c H locs 0 0 (MQ below (ctQ D cI cJ (wC cI cJ oc ac pa pb aa ab xp xs tp cp pa ivz arz laz pAz pBz) A rz) args s 0 0 A) (F0 m 22 ls [])) : ∀ (l2 : Int32) (l3 : Int32) (iv : mI) (ar : mA) (la : mL) (pA : mA) (pB : mA) (rz : Int32) (ivz : mI) (arz : mA) (laz : mL) (pAz : mA) (pBz : mA), mX4_perform_J108 k22 l2 l3 iv ar la pA pB = some (rz, ivz, arz, laz, pAz, pBz) → ∀ (H : Heap) (locs : List Loc) (ls : Array Slot), lv_has ls 4 [(0, .ref (oc 4)), (2, .int l2), (3, .int l3)] → inW D A s (wC cI cJ oc ac pa pb aa ab xp xs tp cp pa iv ar la pA pB) H locs → W p l e (rmO 5 114) s m args below meth c H locs 0 0 (MQ below (ctQ D cI cJ (wC cI cJ oc ac pa pb aa ab xp xs tp cp pa ivz arz laz pAz pBz) A rz) args s 0 0 A) (F0 m 108 ls []) := by
  intro l2 l3 iv ar la pA pB rz ivz arz laz pAz pBz hm H locs ls hl hw
  have hx := C.1.1
  have hb := C.1.2.1
  unfold mX4_perform_J108 at hm
  refine lv_aload_n hx hb dX4_perform_108 rfl (lv_at hl 0 rfl) ?_
  refine g_get C hw gC4_9 dX4_perform_109 ?_
  refine lv_iconst (v := (-1)) hx hb dX4_perform_112 ci_m1 ?_
  refine lv_icmp_ne (tgt := 127) hx hb dX4_perform_113 (by decide) (fun hc => ?_) (fun hc => ?_)
  · have hm := it_f hc hm
    refine lv_iinc (v := (l3 + 1)) (lv' := [(3, .int (l3 + 1)), (0, .ref (oc 4)), (2, .int l2)]) hx hb dX4_perform_127 hl (k := 2) rfl (ii_ ci_1) (by decide) rfl (fun ls hl => ?_)
    refine lv_goto (tgt := 22) hx hb dX4_perform_130 (by decide) ?_
    exact hk22 _ _ _ _ _ _ _ _ _ _ _ _ _ hm _ _ _ (lv_sub hl [1, 2, 0] rfl) hw
  · have hm := it_t hc hm
    refine lv_aload_n hx hb dX4_perform_116 rfl (lv_at hl 0 rfl) ?_
    refine g_get C hw gC4_12 dX4_perform_117 ?_
    refine lv_iconst (v := (-1)) hx hb dX4_perform_120 ci_m1 ?_
    refine lv_icmp_ne (tgt := 127) hx hb dX4_perform_121 (by decide) (fun hc => ?_) (fun hc => ?_)
    · have hm := it_f hc hm
      refine lv_iinc (v := (l3 + 1)) (lv' := [(3, .int (l3 + 1)), (0, .ref (oc 4)), (2, .int l2)]) hx hb dX4_perform_127 hl (k := 2) rfl (ii_ ci_1) (by decide) rfl (fun ls hl => ?_)
      refine lv_goto (tgt := 22) hx hb dX4_perform_130 (by decide) ?_
      exact hk22 _ _ _ _ _ _ _ _ _ _ _ _ _ hm _ _ _ (lv_sub hl [1, 2, 0] rfl) hw
    · have hm := it_t hc hm
      refine lv_bipush (v := (-16)) hx hb dX4_perform_124 cb_m16 ?_
      cases hm
      exact g_iret C hw dX4_perform_126
def mX4_perform_J48 (k22 : Int32 → Int32 → mI → mA → mL → mA → mA → Option (Int32 × mI × mA × mL × mA × mA)) (l2 : Int32) (l3 : Int32) (iv : mI) (ar : mA) (la : mL) (pA : mA) (pB : mA) : Option (Int32 × mI × mA × mL × mA × mA) := if (iv 409) = (-1) then obc (mX4_resume iv ar la pA pB) (fun r57 iv57 ar57 la57 pA57 pB57 => mX4_perform_J108 k22 l2 l3 iv57 ar57 la57 pA57 pB57) else if (iv 408) < l2 then if (iv 407) < 300 then obc (mX4_begin ((va_up iv 408 ((iv 408) + 1)) 409) ((va_up iv 408 ((iv 408) + 1)) 410) (va_up iv 408 ((iv 408) + 1)) ar la pA pB) (fun r105 iv105 ar105 la105 pA105 pB105 => mX4_perform_J108 k22 l2 l3 iv105 ar105 la105 pA105 pB105) else some ((-16), iv, ar, la, pA, pB) else some ((-1), iv, ar, la, pA, pB)
set_option maxRecDepth 100000 in
set_option maxHeartbeats 4000000 in
theorem wX4_perform_J48 {k22 : Int32 → Int32 → mI → mA → mL → mA → mA → Option (Int32 × mI × mA × mL × mA × mA)} (C : mCx p s m args meth c RX4 cX4_perform 4 (some .int) D cI cJ A) (hk22 : ∀ (l2 : Int32) (l3 : Int32) (iv : mI) (ar : mA) (la : mL) (pA : mA) (pB : mA) (rz : Int32) (ivz : mI) (arz : mA) (laz : mL) (pAz : mA) (pBz : mA), k22 l2 l3 iv ar la pA pB = some (rz, ivz, arz, laz, pAz, pBz) → ∀ (H : Heap) (locs : List Loc) (ls : Array Slot), lv_has ls 4 [(0, .ref (oc 4)), (2, .int l2), (3, .int l3)] → inW D A s (wC cI cJ oc ac pa pb aa ab xp xs tp cp pa iv ar la pA pB) H locs → W p l e (rmO 5 114) s m args below meth c H locs 0 0 (MQ below (ctQ D cI cJ (wC cI cJ oc ac pa pb aa ab xp xs tp cp pa ivz arz laz pAz pBz) A rz) args s 0 0 A) (F0 m 22 ls [])) : ∀ (l2 : Int32) (l3 : Int32) (iv : mI) (ar : mA) (la : mL) (pA : mA) (pB : mA) (rz : Int32) (ivz : mI) (arz : mA) (laz : mL) (pAz : mA) (pBz : mA), mX4_perform_J48 k22 l2 l3 iv ar la pA pB = some (rz, ivz, arz, laz, pAz, pBz) → ∀ (H : Heap) (locs : List Loc) (ls : Array Slot), lv_has ls 4 [(0, .ref (oc 4)), (2, .int l2), (3, .int l3)] → inW D A s (wC cI cJ oc ac pa pb aa ab xp xs tp cp pa iv ar la pA pB) H locs → W p l e (rmO 5 114) s m args below meth c H locs 0 0 (MQ below (ctQ D cI cJ (wC cI cJ oc ac pa pb aa ab xp xs tp cp pa ivz arz laz pAz pBz) A rz) args s 0 0 A) (F0 m 48 ls []) := by
  intro l2 l3 iv ar la pA pB rz ivz arz laz pAz pBz hm H locs ls hl hw
  have hx := C.1.1
  have hb := C.1.2.1
  unfold mX4_perform_J48 at hm
  refine lv_aload_n hx hb dX4_perform_48 rfl (lv_at hl 0 rfl) ?_
  refine g_get C hw gC4_9 dX4_perform_49 ?_
  refine lv_iconst (v := (-1)) hx hb dX4_perform_52 ci_m1 ?_
  refine lv_icmp_ne (tgt := 63) hx hb dX4_perform_53 (by decide) (fun hc => ?_) (fun hc => ?_)
  · have hm := it_f hc hm
    refine lv_aload_n hx hb dX4_perform_63 rfl (lv_at hl 0 rfl) ?_
    refine g_get C hw gC4_8 dX4_perform_64 ?_
    refine lv_iload_n hx hb dX4_perform_67 rfl (lv_at hl 1 rfl) ?_
    refine lv_icmp_lt (tgt := 73) hx hb dX4_perform_68 (by decide) (fun hc => ?_) (fun hc => ?_)
    · have hm := it_t hc hm
      refine lv_aload_n hx hb dX4_perform_73 rfl (lv_at hl 0 rfl) ?_
      refine g_get C hw gC4_7 dX4_perform_74 ?_
      refine lv_sipush (v := 300) hx hb dX4_perform_77 cs_300 ?_
      refine lv_icmp_lt (tgt := 86) hx hb dX4_perform_80 (by decide) (fun hc => ?_) (fun hc => ?_)
      · have hm := it_t hc hm
        refine lv_aload_n hx hb dX4_perform_86 rfl (lv_at hl 0 rfl) ?_
        refine lv_dup hx hb dX4_perform_87 rfl ?_
        refine g_get C hw gC4_8 dX4_perform_88 ?_
        refine lv_iconst (v := 1) hx hb dX4_perform_91 ci_1 ?_
        refine lv_iadd hx hb dX4_perform_92 ?_
        refine g_put C hw pC4_8 dX4_perform_93 (fun H locs hw => ?_)
        refine lv_aload_n hx hb dX4_perform_96 rfl (lv_at hl 0 rfl) ?_
        refine lv_aload_n hx hb dX4_perform_97 rfl (lv_at hl 0 rfl) ?_
        refine g_get C hw gC4_9 dX4_perform_98 ?_
        refine lv_aload_n hx hb dX4_perform_101 rfl (lv_at hl 0 rfl) ?_
        refine g_get C hw gC4_10 dX4_perform_102 ?_
        obtain ⟨r105, iv105, ar105, la105, pA105, pB105, hc105, hm⟩ := obc_some hm
        refine g_callv (As := [.int ((va_up iv 408 ((iv 408) + 1)) 409), .int ((va_up iv 408 ((iv 408) + 1)) 410)]) (rest := []) C hw (kX4_begin hc105) mtX4_begin lkX4_76 oC4 hl.1 rfl rfl (Nat.le_of_ble_eq_true rfl) ⟨Nat.le_of_ble_eq_true rfl, Nat.le_of_ble_eq_true rfl⟩ dX4_perform_105 ⟨Nat.zero_le _, Nat.zero_le _⟩ (fun H locs hw => ?_)
        exact wX4_perform_J108 C hk22 _ _ _ _ _ _ _ _ _ _ _ _ _ hm _ _ _ (lv_sub hl [0, 1, 2] rfl) hw
      · have hm := it_f hc hm
        refine lv_bipush (v := (-16)) hx hb dX4_perform_83 cb_m16 ?_
        cases hm
        exact g_iret C hw dX4_perform_85
    · have hm := it_f hc hm
      refine lv_iconst (v := (-1)) hx hb dX4_perform_71 ci_m1 ?_
      cases hm
      exact g_iret C hw dX4_perform_72
  · have hm := it_t hc hm
    refine lv_aload_n hx hb dX4_perform_56 rfl (lv_at hl 0 rfl) ?_
    obtain ⟨r57, iv57, ar57, la57, pA57, pB57, hc57, hm⟩ := obc_some hm
    refine g_callv (As := []) (rest := []) C hw (kX4_resume hc57) mtX4_resume lkX4_70 oC4 hl.1 rfl rfl (Nat.le_of_ble_eq_true rfl) ⟨Nat.le_of_ble_eq_true rfl, Nat.le_of_ble_eq_true rfl⟩ dX4_perform_57 ⟨Nat.zero_le _, Nat.zero_le _⟩ (fun H locs hw => ?_)
    refine lv_goto (tgt := 108) hx hb dX4_perform_60 (by decide) ?_
    exact wX4_perform_J108 C hk22 _ _ _ _ _ _ _ _ _ _ _ _ _ hm _ _ _ (lv_sub hl [0, 1, 2] rfl) hw
def mX4_perform_L22 : Nat → Int32 → Int32 → mI → mA → mL → mA → mA → Option (Int32 × mI × mA × mL × mA × mA)
  | 0, _, _, _, _, _, _, _ => none
  | n + 1, l2, l3, iv, ar, la, pA, pB => if 40002 ≤ l3 then some ((-1), iv, ar, la, pA, pB) else if (iv 409) = (-1) then if (iv 407) = 0 then some ((iv 412), iv, ar, la, pA, pB) else mX4_perform_J48 (mX4_perform_L22 n) l2 l3 iv ar la pA pB else mX4_perform_J48 (mX4_perform_L22 n) l2 l3 iv ar la pA pB
set_option maxRecDepth 100000 in
set_option maxHeartbeats 4000000 in
theorem wX4_perform_L22 (C : mCx p s m args meth c RX4 cX4_perform 4 (some .int) D cI cJ A) (n : Nat) : ∀ (l2 : Int32) (l3 : Int32) (iv : mI) (ar : mA) (la : mL) (pA : mA) (pB : mA) (rz : Int32) (ivz : mI) (arz : mA) (laz : mL) (pAz : mA) (pBz : mA), mX4_perform_L22 n l2 l3 iv ar la pA pB = some (rz, ivz, arz, laz, pAz, pBz) → ∀ (H : Heap) (locs : List Loc) (ls : Array Slot), lv_has ls 4 [(0, .ref (oc 4)), (2, .int l2), (3, .int l3)] → inW D A s (wC cI cJ oc ac pa pb aa ab xp xs tp cp pa iv ar la pA pB) H locs → W p l e (rmO 5 114) s m args below meth c H locs 0 0 (MQ below (ctQ D cI cJ (wC cI cJ oc ac pa pb aa ab xp xs tp cp pa ivz arz laz pAz pBz) A rz) args s 0 0 A) (F0 m 22 ls []) := by
  induction n with
  | zero =>
    intro l2 l3 iv ar la pA pB rz ivz arz laz pAz pBz hm H locs ls hl hw
    have hm : (none : Option (Int32 × mI × mA × mL × mA × mA)) = some _ := hm
    cases hm
  | succ n ih =>
    intro l2 l3 iv ar la pA pB rz ivz arz laz pAz pBz hm H locs ls hl hw
    have hx := C.1.1
    have hb := C.1.2.1
    have hown := C.1.2.2.2.1
    unfold mX4_perform_L22 at hm
    refine lv_iload_n hx hb dX4_perform_22 rfl (lv_at hl 2 rfl) ?_
    refine lv_ldc hx hb hown (C.1.2.2.2.2 _ cstX4_63) dX4_perform_23 ?_
    refine lv_icmp_ge (tgt := 133) hx hb dX4_perform_25 (by decide) (fun hc => ?_) (fun hc => ?_)
    · have hm := it_t hc hm
      refine lv_iconst (v := (-1)) hx hb dX4_perform_133 ci_m1 ?_
      cases hm
      exact g_iret C hw dX4_perform_134
    · have hm := it_f hc hm
      refine lv_aload_n hx hb dX4_perform_28 rfl (lv_at hl 0 rfl) ?_
      refine g_get C hw gC4_9 dX4_perform_29 ?_
      refine lv_iconst (v := (-1)) hx hb dX4_perform_32 ci_m1 ?_
      refine lv_icmp_ne (tgt := 48) hx hb dX4_perform_33 (by decide) (fun hc => ?_) (fun hc => ?_)
      · have hm := it_f hc hm
        exact wX4_perform_J48 C ih _ _ _ _ _ _ _ _ _ _ _ _ _ hm _ _ _ (lv_sub hl [0, 1, 2] rfl) hw
      · have hm := it_t hc hm
        refine lv_aload_n hx hb dX4_perform_36 rfl (lv_at hl 0 rfl) ?_
        refine g_get C hw gC4_7 dX4_perform_37 ?_
        refine lv_if_ne (tgt := 48) hx hb dX4_perform_40 (by decide) (fun hc => ?_) (fun hc => ?_)
        · have hm := it_f hc hm
          exact wX4_perform_J48 C ih _ _ _ _ _ _ _ _ _ _ _ _ _ hm _ _ _ (lv_sub hl [0, 1, 2] rfl) hw
        · have hm := it_t hc hm
          refine lv_aload_n hx hb dX4_perform_43 rfl (lv_at hl 0 rfl) ?_
          refine g_get C hw gC4_12 dX4_perform_44 ?_
          cases hm
          exact g_iret C hw dX4_perform_47
def mX4_perform (a2 : Int32) (iv : mI) (ar : mA) (la : mL) (pA : mA) (pB : mA) : Option (Int32 × mI × mA × mL × mA × mA) := obc (mX4_forget iv ar la pA pB) (fun r1 iv1 ar1 la1 pA1 pB1 => obc (mX4_want 0 (-1) (va_up iv1 411 (-1)) ar1 la1 pA1 pB1) (fun r17 iv17 ar17 la17 pA17 pB17 => mX4_perform_L22 bigF a2 0 iv17 ar17 la17 pA17 pB17))
set_option maxRecDepth 100000 in
set_option maxHeartbeats 4000000 in
theorem kX4_perform {a2 : Int32} {iv ivz : mI} {ar arz : mA} {la laz : mL} {pA pAz : mA} {pB pBz : mA} {rz : Int32} (hm : mX4_perform a2 iv ar la pA pB = some (rz, ivz, arz, laz, pAz, pBz)) : Ct l D cI cJ yX4_perform cX4_perform 4 (some .int) 5 114 [.ref (oc 4), .ref pa, .int a2] (wC cI cJ oc ac pa pb aa ab xp xs tp cp mp iv ar la pA pB) (wC cI cJ oc ac pa pb aa ab xp xs tp cp pa ivz arz laz pAz pBz) rz := by
  intro sz
  refine ct_of (by decide) (Nat.le_of_ble_eq_true rfl) ?_
  intro p e s m args below meth c C hw ls hl
  have hl : lv_has ls 4 [(0, .ref (oc 4)), (1, .ref pa), (2, .int a2)] := hl
  have hx := C.1.1
  have hb := C.1.2.1
  unfold mX4_perform at hm
  refine lv_aload_n hx hb dX4_perform_0 rfl (lv_at hl 0 rfl) ?_
  obtain ⟨r1, iv1, ar1, la1, pA1, pB1, hc1, hm⟩ := obc_some hm
  refine g_callv (As := []) (rest := []) C hw (kX4_forget hc1) mtX4_forget lkX4_53 oC4 hl.1 rfl rfl (Nat.le_of_ble_eq_true rfl) ⟨Nat.le_of_ble_eq_true rfl, Nat.le_of_ble_eq_true rfl⟩ dX4_perform_1 ⟨Nat.zero_le _, Nat.zero_le _⟩ (fun H locs hw => ?_)
  refine lv_aload_n hx hb dX4_perform_4 rfl (lv_at hl 0 rfl) ?_
  refine lv_aload_n hx hb dX4_perform_5 rfl (lv_at hl 1 rfl) ?_
  refine g_put C hw pC4_2 dX4_perform_6 (fun H locs hw => ?_)
  refine lv_aload_n hx hb dX4_perform_9 rfl (lv_at hl 0 rfl) ?_
  refine lv_iconst (v := (-1)) hx hb dX4_perform_10 ci_m1 ?_
  refine g_put C hw pC4_11 dX4_perform_11 (fun H locs hw => ?_)
  refine lv_aload_n hx hb dX4_perform_14 rfl (lv_at hl 0 rfl) ?_
  refine lv_iconst (v := 0) hx hb dX4_perform_15 ci_0 ?_
  refine lv_iconst (v := (-1)) hx hb dX4_perform_16 ci_m1 ?_
  obtain ⟨r17, iv17, ar17, la17, pA17, pB17, hc17, hm⟩ := obc_some hm
  refine g_callv (As := [.int 0, .int (-1)]) (rest := []) C hw (kX4_want hc17) mtX4_want lkX4_59 oC4 hl.1 rfl rfl (Nat.le_of_ble_eq_true rfl) ⟨Nat.le_of_ble_eq_true rfl, Nat.le_of_ble_eq_true rfl⟩ dX4_perform_17 ⟨Nat.zero_le _, Nat.zero_le _⟩ (fun H locs hw => ?_)
  refine lv_iconst (v := 0) hx hb dX4_perform_20 ci_0 ?_
  refine lv_istore_n (lv' := [(3, .int 0), (0, .ref (oc 4)), (1, .ref pa), (2, .int a2)]) hx hb dX4_perform_21 rfl hl (by decide) rfl (fun ls hl => ?_)
  exact wX4_perform_L22 C bigF _ _ _ _ _ _ _ _ _ _ _ _ _ hm _ _ _ (lv_sub hl [1, 3, 0] rfl) hw
/-- how the world of X11_run ends: by qz -/
def wEX11_run (cI cJ : ClassId) (oc ac : Nat → Nat) (pa pb : Nat) (aa ab : Nat → Nat) (xp xs tp cp mp : Nat) (iv : mI) (ar : mA) (la : mL) (pA pB : mA) (q : Nat) : va_W := match q with
  | 0 => (wC cI cJ oc ac pa pb aa ab pa pb tp cp mp iv ar la pA pB)
  | _ => (wC cI cJ oc ac pa pb aa ab pa pb tp cp pa iv ar la pA pB)
def mX11_run (a1 : Int32) (iv : mI) (ar : mA) (la : mL) (pA : mA) (pB : mA) : Option (Int32 × mI × mA × mL × mA × mA × Nat) := if (iv 1110) = 0 then some ((-2), iv, ar, la, pA, pB, 0) else if a1 < 0 then some ((-2), iv, ar, la, pA, pB, 0) else if a1 ≤ 20000 then obc (mX4_perform a1 iv ar la pA pB) (fun r30 iv30 ar30 la30 pA30 pB30 => some (r30, iv30, ar30, la30, pA30, pB30, 1)) else some ((-2), iv, ar, la, pA, pB, 0)
set_option maxRecDepth 100000 in
set_option maxHeartbeats 4000000 in
theorem kX11_run {a1 : Int32} {iv ivz : mI} {ar arz : mA} {la laz : mL} {pA pAz : mA} {pB pBz : mA} {qz : Nat} {rz : Int32} (hm : mX11_run a1 iv ar la pA pB = some (rz, ivz, arz, laz, pAz, pBz, qz)) : Ct l D cI cJ yX11_run cX11_run 2 (some .int) 6 137 [.ref (oc 11), .int a1] (wC cI cJ oc ac pa pb aa ab pa pb tp cp mp iv ar la pA pB) (wEX11_run cI cJ oc ac pa pb aa ab pa pb tp cp mp ivz arz laz pAz pBz qz) rz := by
  intro sz
  refine ct_of (by decide) (Nat.le_of_ble_eq_true rfl) ?_
  intro p e s m args below meth c C hw ls hl
  have hl : lv_has ls 2 [(0, .ref (oc 11)), (1, .int a1)] := hl
  have hx := C.1.1
  have hb := C.1.2.1
  unfold mX11_run at hm
  refine lv_aload_n hx hb dX11_run_0 rfl (lv_at hl 0 rfl) ?_
  refine g_get C hw gC11_10 dX11_run_1 ?_
  refine lv_if_eq (tgt := 18) hx hb dX11_run_4 (by decide) (fun hc => ?_) (fun hc => ?_)
  · have hm := it_t hc hm
    refine lv_bipush (v := (-2)) hx hb dX11_run_18 cb_m2 ?_
    cases hm
    exact g_iret C hw dX11_run_20
  · have hm := it_f hc hm
    refine lv_iload_n hx hb dX11_run_7 rfl (lv_at hl 1 rfl) ?_
    refine lv_if_lt (tgt := 18) hx hb dX11_run_8 (by decide) (fun hc => ?_) (fun hc => ?_)
    · have hm := it_t hc hm
      refine lv_bipush (v := (-2)) hx hb dX11_run_18 cb_m2 ?_
      cases hm
      exact g_iret C hw dX11_run_20
    · have hm := it_f hc hm
      refine lv_iload_n hx hb dX11_run_11 rfl (lv_at hl 1 rfl) ?_
      refine lv_sipush (v := 20000) hx hb dX11_run_12 cs_20000 ?_
      refine lv_icmp_le (tgt := 21) hx hb dX11_run_15 (by decide) (fun hc => ?_) (fun hc => ?_)
      · have hm := it_t hc hm
        refine lv_aload_n hx hb dX11_run_21 rfl (lv_at hl 0 rfl) ?_
        refine g_get C hw gC11_9 dX11_run_22 ?_
        refine lv_aload_n hx hb dX11_run_25 rfl (lv_at hl 0 rfl) ?_
        refine g_get C hw gC11_4 dX11_run_26 ?_
        refine lv_iload_n hx hb dX11_run_29 rfl (lv_at hl 1 rfl) ?_
        obtain ⟨r30, iv30, ar30, la30, pA30, pB30, hc30, hm⟩ := obc_some hm
        refine g_calli (As := [.ref pa, .int a1]) (rest := []) C hw (kX4_perform hc30) mtX4_perform lkX11_160 oC4 hl.1 rfl rfl (Nat.le_of_ble_eq_true rfl) ⟨Nat.le_of_ble_eq_true rfl, Nat.le_of_ble_eq_true rfl⟩ dX11_run_30 ⟨Nat.zero_le _, Nat.zero_le _⟩ (fun H locs hw => ?_)
        cases hm
        exact g_iret C hw dX11_run_33
      · have hm := it_f hc hm
        refine lv_bipush (v := (-2)) hx hb dX11_run_18 cb_m2 ?_
        cases hm
        exact g_iret C hw dX11_run_20
def mX4_values  (iv : mI) (ar : mA) (la : mL) (pA : mA) (pB : mA) : Option (Int32 × mI × mA × mL × mA × mA) := some (0, iv, ar, la, pA, pB)
set_option maxRecDepth 100000 in
set_option maxHeartbeats 4000000 in
theorem kX4_values {iv ivz : mI} {ar arz : mA} {la laz : mL} {pA pAz : mA} {pB pBz : mA} {rz : Int32} (hm : mX4_values iv ar la pA pB = some (rz, ivz, arz, laz, pAz, pBz)) : CtR l D cI cJ yX4_values cX4_values 1 (some (.object "RoundTypes$Values")) 0 0 [.ref (oc 4)] (wC cI cJ oc ac pa pb aa ab xp xs tp cp mp iv ar la pA pB) (wC cI cJ oc ac pa pb aa ab xp xs tp cp mp ivz arz laz pAz pBz) (oc 10) := by
  intro sz
  refine ct_of (by decide) (Nat.le_of_ble_eq_true rfl) ?_
  intro p e s m args below meth c C hw ls hl
  have hl : lv_has ls 1 [(0, .ref (oc 4))] := hl
  have hx := C.1.1
  have hb := C.1.2.1
  unfold mX4_values at hm
  refine lv_aload_n hx hb dX4_values_0 rfl (lv_at hl 0 rfl) ?_
  refine g_get C hw gC4_0 dX4_values_1 ?_
  cases hm
  exact g_aret C hw ⟨_, rfl⟩ dX4_values_4
def mX10_kindOf (a1 : Int32) (iv : mI) (ar : mA) (la : mL) (pA : mA) (pB : mA) : Option (Int32 × mI × mA × mL × mA × mA) := obc (mX10_has a1 iv ar la pA pB) (fun r2 iv2 ar2 la2 pA2 pB2 => if r2 = 0 then some ((-1), iv2, ar2, la2, pA2, pB2) else if a1 < 0 ∨ 2000 ≤ a1.toNatClampNeg then none else some ((ar2 1000 a1.toNatClampNeg), iv2, ar2, la2, pA2, pB2))
set_option maxRecDepth 100000 in
set_option maxHeartbeats 4000000 in
theorem kX10_kindOf {a1 : Int32} {iv ivz : mI} {ar arz : mA} {la laz : mL} {pA pAz : mA} {pB pBz : mA} {rz : Int32} (hm : mX10_kindOf a1 iv ar la pA pB = some (rz, ivz, arz, laz, pAz, pBz)) : Ct l D cI cJ yX10_kindOf cX10_kindOf 2 (some .int) 1 21 [.ref (oc 10), .int a1] (wC cI cJ oc ac pa pb aa ab xp xs tp cp mp iv ar la pA pB) (wC cI cJ oc ac pa pb aa ab xp xs tp cp mp ivz arz laz pAz pBz) rz := by
  intro sz
  refine ct_of (by decide) (Nat.le_of_ble_eq_true rfl) ?_
  intro p e s m args below meth c C hw ls hl
  have hl : lv_has ls 2 [(0, .ref (oc 10)), (1, .int a1)] := hl
  have hx := C.1.1
  have hb := C.1.2.1
  unfold mX10_kindOf at hm
  refine lv_aload_n hx hb dX10_kindOf_0 rfl (lv_at hl 0 rfl) ?_
  refine lv_iload_n hx hb dX10_kindOf_1 rfl (lv_at hl 1 rfl) ?_
  obtain ⟨r2, iv2, ar2, la2, pA2, pB2, hc2, hm⟩ := obc_some hm
  refine g_calli (As := [.int a1]) (rest := []) C hw (kX10_has hc2) mtX10_has lkX10_31 oC10 hl.1 rfl rfl (Nat.le_of_ble_eq_true rfl) ⟨Nat.le_of_ble_eq_true rfl, Nat.le_of_ble_eq_true rfl⟩ dX10_kindOf_2 ⟨Nat.zero_le _, Nat.zero_le _⟩ (fun H locs hw => ?_)
  refine lv_if_eq (tgt := 17) hx hb dX10_kindOf_5 (by decide) (fun hc => ?_) (fun hc => ?_)
  · have hm := it_t hc hm
    refine lv_iconst (v := (-1)) hx hb dX10_kindOf_17 ci_m1 ?_
    cases hm
    exact g_iret C hw dX10_kindOf_18
  · have hm := it_f hc hm
    refine lv_aload_n hx hb dX10_kindOf_8 rfl (lv_at hl 0 rfl) ?_
    refine g_get C hw gC10_0 dX10_kindOf_9 ?_
    refine lv_iload_n hx hb dX10_kindOf_12 rfl (lv_at hl 1 rfl) ?_
    obtain ⟨hi, hm⟩ := it_a hm
    refine g_ald C hw aC10_0 hi dX10_kindOf_13 ?_
    refine lv_goto (tgt := 18) hx hb dX10_kindOf_14 (by decide) ?_
    cases hm
    exact g_iret C hw dX10_kindOf_18
def mX11_value (a1 : Int32) (a2 : Int32) (iv : mI) (ar : mA) (la : mL) (pA : mA) (pB : mA) : Option (Int32 × mI × mA × mL × mA × mA) := if 0 ≤ a2 then obc (mX4_values iv ar la pA pB) (fun r11 iv11 ar11 la11 pA11 pB11 => obc (mX10_has a1 iv11 ar11 la11 pA11 pB11) (fun r17 iv17 ar17 la17 pA17 pB17 => if r17 = 0 then some ((-1), iv17, ar17, la17, pA17, pB17) else if a2 = 0 then obc (mX10_kindOf a1 iv17 ar17 la17 pA17 pB17) (fun r31 iv31 ar31 la31 pA31 pB31 => some (r31, iv31, ar31, la31, pA31, pB31)) else if a2 = 1 then obc (mX10_numberOf a1 iv17 ar17 la17 pA17 pB17) (fun r42 iv42 ar42 la42 pA42 pB42 => some (r42, iv42, ar42, la42, pA42, pB42)) else obc (mX10_partOf a1 (a2 - 2) iv17 ar17 la17 pA17 pB17) (fun r53 iv53 ar53 la53 pA53 pB53 => some (r53, iv53, ar53, la53, pA53, pB53)))) else some ((-2), iv, ar, la, pA, pB)
set_option maxRecDepth 100000 in
set_option maxHeartbeats 4000000 in
theorem kX11_value {a1 a2 : Int32} {iv ivz : mI} {ar arz : mA} {la laz : mL} {pA pAz : mA} {pB pBz : mA} {rz : Int32} (hm : mX11_value a1 a2 iv ar la pA pB = some (rz, ivz, arz, laz, pAz, pBz)) : Ct l D cI cJ yX11_value cX11_value 4 (some .int) 2 45 [.ref (oc 11), .int a1, .int a2] (wC cI cJ oc ac pa pb aa ab pa pb tp cp mp iv ar la pA pB) (wC cI cJ oc ac pa pb aa ab pa pb tp cp mp ivz arz laz pAz pBz) rz := by
  intro sz
  refine ct_of (by decide) (Nat.le_of_ble_eq_true rfl) ?_
  intro p e s m args below meth c C hw ls hl
  have hl : lv_has ls 4 [(0, .ref (oc 11)), (1, .int a1), (2, .int a2)] := hl
  have hx := C.1.1
  have hb := C.1.2.1
  unfold mX11_value at hm
  refine lv_iload_n hx hb dX11_value_0 rfl (lv_at hl 2 rfl) ?_
  refine lv_if_ge (tgt := 7) hx hb dX11_value_1 (by decide) (fun hc => ?_) (fun hc => ?_)
  · have hm := it_t hc hm
    refine lv_aload_n hx hb dX11_value_7 rfl (lv_at hl 0 rfl) ?_
    refine g_get C hw gC11_9 dX11_value_8 ?_
    obtain ⟨r11, iv11, ar11, la11, pA11, pB11, hc11, hm⟩ := obc_some hm
    refine g_callr (As := []) (rest := []) C hw (kX4_values hc11) mtX4_values lkX11_164 oC4 hl.1 rfl rfl (Nat.le_of_ble_eq_true rfl) ⟨Nat.le_of_ble_eq_true rfl, Nat.le_of_ble_eq_true rfl⟩ dX11_value_11 ⟨Nat.zero_le _, Nat.zero_le _⟩ (fun H locs hw => ?_)
    refine lv_astore_n (lv' := [(3, .ref (oc 10)), (0, .ref (oc 11)), (1, .int a1), (2, .int a2)]) hx hb dX11_value_14 rfl hl (by decide) rfl (fun ls hl => ?_)
    refine lv_aload_n hx hb dX11_value_15 rfl (lv_at hl 0 rfl) ?_
    refine lv_iload_n hx hb dX11_value_16 rfl (lv_at hl 2 rfl) ?_
    obtain ⟨r17, iv17, ar17, la17, pA17, pB17, hc17, hm⟩ := obc_some hm
    refine g_calli (As := [.int a1]) (rest := []) C hw (kX10_has hc17) mtX10_has lkX11_168 oC10 hl.1 rfl rfl (Nat.le_of_ble_eq_true rfl) ⟨Nat.le_of_ble_eq_true rfl, Nat.le_of_ble_eq_true rfl⟩ dX11_value_17 ⟨Nat.zero_le _, Nat.zero_le _⟩ (fun H locs hw => ?_)
    refine lv_if_ne (tgt := 25) hx hb dX11_value_20 (by decide) (fun hc => ?_) (fun hc => ?_)
    · have hm := it_f hc hm
      refine lv_iload_n hx hb dX11_value_25 rfl (lv_at hl 3 rfl) ?_
      refine lv_if_ne (tgt := 35) hx hb dX11_value_26 (by decide) (fun hc => ?_) (fun hc => ?_)
      · have hm := it_f hc hm
        refine lv_iload_n hx hb dX11_value_35 rfl (lv_at hl 3 rfl) ?_
        refine lv_iconst (v := 1) hx hb dX11_value_36 ci_1 ?_
        refine lv_icmp_ne (tgt := 48) hx hb dX11_value_37 (by decide) (fun hc => ?_) (fun hc => ?_)
        · have hm := it_f hc hm
          refine lv_aload_n hx hb dX11_value_48 rfl (lv_at hl 0 rfl) ?_
          refine lv_iload_n hx hb dX11_value_49 rfl (lv_at hl 2 rfl) ?_
          refine lv_iload_n hx hb dX11_value_50 rfl (lv_at hl 3 rfl) ?_
          refine lv_iconst (v := 2) hx hb dX11_value_51 ci_2 ?_
          refine lv_isub hx hb dX11_value_52 ?_
          obtain ⟨r53, iv53, ar53, la53, pA53, pB53, hc53, hm⟩ := obc_some hm
          refine g_calli (As := [.int a1, .int (a2 - 2)]) (rest := []) C hw (kX10_partOf hc53) mtX10_partOf lkX11_175 oC10 hl.1 rfl rfl (Nat.le_of_ble_eq_true rfl) ⟨Nat.le_of_ble_eq_true rfl, Nat.le_of_ble_eq_true rfl⟩ dX11_value_53 ⟨Nat.zero_le _, Nat.zero_le _⟩ (fun H locs hw => ?_)
          cases hm
          exact g_iret C hw dX11_value_56
        · have hm := it_t hc hm
          refine lv_aload_n hx hb dX11_value_40 rfl (lv_at hl 0 rfl) ?_
          refine lv_iload_n hx hb dX11_value_41 rfl (lv_at hl 2 rfl) ?_
          obtain ⟨r42, iv42, ar42, la42, pA42, pB42, hc42, hm⟩ := obc_some hm
          refine g_calli (As := [.int a1]) (rest := []) C hw (kX10_numberOf hc42) mtX10_numberOf lkX11_172 oC10 hl.1 rfl rfl (Nat.le_of_ble_eq_true rfl) ⟨Nat.le_of_ble_eq_true rfl, Nat.le_of_ble_eq_true rfl⟩ dX11_value_42 ⟨Nat.zero_le _, Nat.zero_le _⟩ (fun H locs hw => ?_)
          refine lv_goto (tgt := 56) hx hb dX11_value_45 (by decide) ?_
          cases hm
          exact g_iret C hw dX11_value_56
      · have hm := it_t hc hm
        refine lv_aload_n hx hb dX11_value_29 rfl (lv_at hl 0 rfl) ?_
        refine lv_iload_n hx hb dX11_value_30 rfl (lv_at hl 2 rfl) ?_
        obtain ⟨r31, iv31, ar31, la31, pA31, pB31, hc31, hm⟩ := obc_some hm
        refine g_calli (As := [.int a1]) (rest := []) C hw (kX10_kindOf hc31) mtX10_kindOf lkX11_171 oC10 hl.1 rfl rfl (Nat.le_of_ble_eq_true rfl) ⟨Nat.le_of_ble_eq_true rfl, Nat.le_of_ble_eq_true rfl⟩ dX11_value_31 ⟨Nat.zero_le _, Nat.zero_le _⟩ (fun H locs hw => ?_)
        cases hm
        exact g_iret C hw dX11_value_34
    · have hm := it_t hc hm
      refine lv_iconst (v := (-1)) hx hb dX11_value_23 ci_m1 ?_
      cases hm
      exact g_iret C hw dX11_value_24
  · have hm := it_f hc hm
    refine lv_bipush (v := (-2)) hx hb dX11_value_4 cb_m2 ?_
    cases hm
    exact g_iret C hw dX11_value_6
def mX8_size  (iv : mI) (ar : mA) (la : mL) (pA : mA) (pB : mA) : Option (Int32 × mI × mA × mL × mA × mA) := some ((iv 801), iv, ar, la, pA, pB)
set_option maxRecDepth 100000 in
set_option maxHeartbeats 4000000 in
theorem kX8_size {iv ivz : mI} {ar arz : mA} {la laz : mL} {pA pAz : mA} {pB pBz : mA} {rz : Int32} (hm : mX8_size iv ar la pA pB = some (rz, ivz, arz, laz, pAz, pBz)) : Ct l D cI cJ yX8_size cX8_size 1 (some .int) 0 0 [.ref (oc 8)] (wC cI cJ oc ac pa pb aa ab xp xs tp cp mp iv ar la pA pB) (wC cI cJ oc ac pa pb aa ab xp xs tp cp mp ivz arz laz pAz pBz) rz := by
  intro sz
  refine ct_of (by decide) (Nat.le_of_ble_eq_true rfl) ?_
  intro p e s m args below meth c C hw ls hl
  have hl : lv_has ls 1 [(0, .ref (oc 8))] := hl
  have hx := C.1.1
  have hb := C.1.2.1
  unfold mX8_size at hm
  refine lv_aload_n hx hb dX8_size_0 rfl (lv_at hl 0 rfl) ?_
  refine g_get C hw gC8_1 dX8_size_1 ?_
  cases hm
  exact g_iret C hw dX8_size_4
def mX10_size  (iv : mI) (ar : mA) (la : mL) (pA : mA) (pB : mA) : Option (Int32 × mI × mA × mL × mA × mA) := some ((iv 1005), iv, ar, la, pA, pB)
set_option maxRecDepth 100000 in
set_option maxHeartbeats 4000000 in
theorem kX10_size {iv ivz : mI} {ar arz : mA} {la laz : mL} {pA pAz : mA} {pB pBz : mA} {rz : Int32} (hm : mX10_size iv ar la pA pB = some (rz, ivz, arz, laz, pAz, pBz)) : Ct l D cI cJ yX10_size cX10_size 1 (some .int) 0 0 [.ref (oc 10)] (wC cI cJ oc ac pa pb aa ab xp xs tp cp mp iv ar la pA pB) (wC cI cJ oc ac pa pb aa ab xp xs tp cp mp ivz arz laz pAz pBz) rz := by
  intro sz
  refine ct_of (by decide) (Nat.le_of_ble_eq_true rfl) ?_
  intro p e s m args below meth c C hw ls hl
  have hl : lv_has ls 1 [(0, .ref (oc 10))] := hl
  have hx := C.1.1
  have hb := C.1.2.1
  unfold mX10_size at hm
  refine lv_aload_n hx hb dX10_size_0 rfl (lv_at hl 0 rfl) ?_
  refine g_get C hw gC10_5 dX10_size_1 ?_
  cases hm
  exact g_iret C hw dX10_size_4
def mX4_steps  (iv : mI) (ar : mA) (la : mL) (pA : mA) (pB : mA) : Option (Int32 × mI × mA × mL × mA × mA) := some ((iv 408), iv, ar, la, pA, pB)
set_option maxRecDepth 100000 in
set_option maxHeartbeats 4000000 in
theorem kX4_steps {iv ivz : mI} {ar arz : mA} {la laz : mL} {pA pAz : mA} {pB pBz : mA} {rz : Int32} (hm : mX4_steps iv ar la pA pB = some (rz, ivz, arz, laz, pAz, pBz)) : Ct l D cI cJ yX4_steps cX4_steps 1 (some .int) 0 0 [.ref (oc 4)] (wC cI cJ oc ac pa pb aa ab xp xs tp cp mp iv ar la pA pB) (wC cI cJ oc ac pa pb aa ab xp xs tp cp mp ivz arz laz pAz pBz) rz := by
  intro sz
  refine ct_of (by decide) (Nat.le_of_ble_eq_true rfl) ?_
  intro p e s m args below meth c C hw ls hl
  have hl : lv_has ls 1 [(0, .ref (oc 4))] := hl
  have hx := C.1.1
  have hb := C.1.2.1
  unfold mX4_steps at hm
  refine lv_aload_n hx hb dX4_steps_0 rfl (lv_at hl 0 rfl) ?_
  refine g_get C hw gC4_8 dX4_steps_1 ?_
  cases hm
  exact g_iret C hw dX4_steps_4
def mX11_count (a1 : Int32) (iv : mI) (ar : mA) (la : mL) (pA : mA) (pB : mA) : Option (Int32 × mI × mA × mL × mA × mA) := if a1 = 0 then obc (mX3_size iv ar la pA pB) (fun r40 iv40 ar40 la40 pA40 pB40 => some (r40, iv40, ar40, la40, pA40, pB40)) else if a1 = 1 then obc (mX8_size iv ar la pA pB) (fun r48 iv48 ar48 la48 pA48 pB48 => some (r48, iv48, ar48, la48, pA48, pB48)) else if a1 = 2 then obc (mX4_values iv ar la pA pB) (fun r56 iv56 ar56 la56 pA56 pB56 => obc (mX10_size iv56 ar56 la56 pA56 pB56) (fun r59 iv59 ar59 la59 pA59 pB59 => some (r59, iv59, ar59, la59, pA59, pB59))) else if a1 = 3 then obc (mX4_steps iv ar la pA pB) (fun r67 iv67 ar67 la67 pA67 pB67 => some (r67, iv67, ar67, la67, pA67, pB67)) else if a1 = 4 then if (iv 1110) = 0 then some (0, iv, ar, la, pA, pB) else some (1, iv, ar, la, pA, pB) else some ((-2), iv, ar, la, pA, pB)
set_option maxRecDepth 100000 in
set_option maxHeartbeats 4000000 in
theorem kX11_count {a1 : Int32} {iv ivz : mI} {ar arz : mA} {la laz : mL} {pA pAz : mA} {pB pBz : mA} {rz : Int32} (hm : mX11_count a1 iv ar la pA pB = some (rz, ivz, arz, laz, pAz, pBz)) : Ct l D cI cJ yX11_count cX11_count 2 (some .int) 1 20 [.ref (oc 11), .int a1] (wC cI cJ oc ac pa pb aa ab pa pb tp cp mp iv ar la pA pB) (wC cI cJ oc ac pa pb aa ab pa pb tp cp mp ivz arz laz pAz pBz) rz := by
  intro sz
  refine ct_of (by decide) (Nat.le_of_ble_eq_true rfl) ?_
  intro p e s m args below meth c C hw ls hl
  have hl : lv_has ls 2 [(0, .ref (oc 11)), (1, .int a1)] := hl
  have hx := C.1.1
  have hb := C.1.2.1
  unfold mX11_count at hm
  refine lv_iload_n hx hb dX11_count_0 rfl (lv_at hl 1 rfl) ?_
  refine br_by (c := a1 = 0) (fun hc => ?_) (fun hc0 => ?_)
  · have hm := it_t hc hm
    refine lv_tableIn (off := 35) (tgt := 36) hx hb dX11_count_1 (by rw [hc]; decide) (by rw [hc]; decide) (by rw [hc]; rfl) (by decide) ?_
    refine lv_aload_n hx hb dX11_count_36 rfl (lv_at hl 0 rfl) ?_
    refine g_get C hw gC11_1 dX11_count_37 ?_
    obtain ⟨r40, iv40, ar40, la40, pA40, pB40, hc40, hm⟩ := obc_some hm
    refine g_calli (As := []) (rest := []) C hw (kX3_size hc40) mtX3_size lkX11_89 oC3 hl.1 rfl rfl (Nat.le_of_ble_eq_true rfl) ⟨Nat.le_of_ble_eq_true rfl, Nat.le_of_ble_eq_true rfl⟩ dX11_count_40 ⟨Nat.zero_le _, Nat.zero_le _⟩ (fun H locs hw => ?_)
    cases hm
    exact g_iret C hw dX11_count_43
  · have hm := it_f hc0 hm
    refine br_by (c := a1 = 1) (fun hc => ?_) (fun hc1 => ?_)
    · have hm := it_t hc hm
      refine lv_tableIn (off := 43) (tgt := 44) hx hb dX11_count_1 (by rw [hc]; decide) (by rw [hc]; decide) (by rw [hc]; rfl) (by decide) ?_
      refine lv_aload_n hx hb dX11_count_44 rfl (lv_at hl 0 rfl) ?_
      refine g_get C hw gC11_0 dX11_count_45 ?_
      obtain ⟨r48, iv48, ar48, la48, pA48, pB48, hc48, hm⟩ := obc_some hm
      refine g_calli (As := []) (rest := []) C hw (kX8_size hc48) mtX8_size lkX11_176 oC8 hl.1 rfl rfl (Nat.le_of_ble_eq_true rfl) ⟨Nat.le_of_ble_eq_true rfl, Nat.le_of_ble_eq_true rfl⟩ dX11_count_48 ⟨Nat.zero_le _, Nat.zero_le _⟩ (fun H locs hw => ?_)
      cases hm
      exact g_iret C hw dX11_count_51
    · have hm := it_f hc1 hm
      refine br_by (c := a1 = 2) (fun hc => ?_) (fun hc2 => ?_)
      · have hm := it_t hc hm
        refine lv_tableIn (off := 51) (tgt := 52) hx hb dX11_count_1 (by rw [hc]; decide) (by rw [hc]; decide) (by rw [hc]; rfl) (by decide) ?_
        refine lv_aload_n hx hb dX11_count_52 rfl (lv_at hl 0 rfl) ?_
        refine g_get C hw gC11_9 dX11_count_53 ?_
        obtain ⟨r56, iv56, ar56, la56, pA56, pB56, hc56, hm⟩ := obc_some hm
        refine g_callr (As := []) (rest := []) C hw (kX4_values hc56) mtX4_values lkX11_164 oC4 hl.1 rfl rfl (Nat.le_of_ble_eq_true rfl) ⟨Nat.le_of_ble_eq_true rfl, Nat.le_of_ble_eq_true rfl⟩ dX11_count_56 ⟨Nat.zero_le _, Nat.zero_le _⟩ (fun H locs hw => ?_)
        obtain ⟨r59, iv59, ar59, la59, pA59, pB59, hc59, hm⟩ := obc_some hm
        refine g_calli (As := []) (rest := []) C hw (kX10_size hc59) mtX10_size lkX11_177 oC10 hl.1 rfl rfl (Nat.le_of_ble_eq_true rfl) ⟨Nat.le_of_ble_eq_true rfl, Nat.le_of_ble_eq_true rfl⟩ dX11_count_59 ⟨Nat.zero_le _, Nat.zero_le _⟩ (fun H locs hw => ?_)
        cases hm
        exact g_iret C hw dX11_count_62
      · have hm := it_f hc2 hm
        refine br_by (c := a1 = 3) (fun hc => ?_) (fun hc3 => ?_)
        · have hm := it_t hc hm
          refine lv_tableIn (off := 62) (tgt := 63) hx hb dX11_count_1 (by rw [hc]; decide) (by rw [hc]; decide) (by rw [hc]; rfl) (by decide) ?_
          refine lv_aload_n hx hb dX11_count_63 rfl (lv_at hl 0 rfl) ?_
          refine g_get C hw gC11_9 dX11_count_64 ?_
          obtain ⟨r67, iv67, ar67, la67, pA67, pB67, hc67, hm⟩ := obc_some hm
          refine g_calli (As := []) (rest := []) C hw (kX4_steps hc67) mtX4_steps lkX11_178 oC4 hl.1 rfl rfl (Nat.le_of_ble_eq_true rfl) ⟨Nat.le_of_ble_eq_true rfl, Nat.le_of_ble_eq_true rfl⟩ dX11_count_67 ⟨Nat.zero_le _, Nat.zero_le _⟩ (fun H locs hw => ?_)
          cases hm
          exact g_iret C hw dX11_count_70
        · have hm := it_f hc3 hm
          refine br_by (c := a1 = 4) (fun hc => ?_) (fun hc4 => ?_)
          · have hm := it_t hc hm
            refine lv_tableIn (off := 70) (tgt := 71) hx hb dX11_count_1 (by rw [hc]; decide) (by rw [hc]; decide) (by rw [hc]; rfl) (by decide) ?_
            refine lv_aload_n hx hb dX11_count_71 rfl (lv_at hl 0 rfl) ?_
            refine g_get C hw gC11_10 dX11_count_72 ?_
            refine lv_if_eq (tgt := 82) hx hb dX11_count_75 (by decide) (fun hc => ?_) (fun hc => ?_)
            · have hm := it_t hc hm
              refine lv_iconst (v := 0) hx hb dX11_count_82 ci_0 ?_
              cases hm
              exact g_iret C hw dX11_count_83
            · have hm := it_f hc hm
              refine lv_iconst (v := 1) hx hb dX11_count_78 ci_1 ?_
              refine lv_goto (tgt := 83) hx hb dX11_count_79 (by decide) ?_
              cases hm
              exact g_iret C hw dX11_count_83
          · have hm := it_f hc4 hm
            have ho : (a1).toInt < 0 ∨ 4 < (a1).toInt := by
              have ehc0 := sw_ne (n := 0) hc0 (by decide)
              have ehc1 := sw_ne (n := 1) hc1 (by decide)
              have ehc2 := sw_ne (n := 2) hc2 (by decide)
              have ehc3 := sw_ne (n := 3) hc3 (by decide)
              have ehc4 := sw_ne (n := 4) hc4 (by decide)
              omega
            refine lv_tableOut (tgt := 84) hx hb dX11_count_1 ho (by decide) ?_
            refine lv_bipush (v := (-2)) hx hb dX11_count_84 cb_m2 ?_
            cases hm
            exact g_iret C hw dX11_count_86
end
