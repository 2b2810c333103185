section
variable {l : Launch} {p : Program} {e : Env} {s : State} {m : MethodId} {args : Array Value} {below : List Frame} {meth : Method} {c : Code} {D : va_G} {cI cJ : ClassId} {A : Nat → Prop} {o : Nat} {ad : Nat → Nat}
def mX12_typeTerms_J99 (k11 : mI → mA → Option (Int32 × mI × mA)) (l2 : Int32) (l3 : Int32) (l4 : Int32) (iv : mI) (ar : mA) : Option (Int32 × mI × mA) := if (iv 24) = 0 then ob (mX12_insideAt l2 l3 iv ar) (fun r110 iv110 ar110 => ob (mX12_beginTyping r110 l4 iv110 ar110) (fun r115 iv115 ar115 => k11 iv115 ar115)) else k11 iv ar
set_option maxRecDepth 100000 in
set_option maxHeartbeats 4000000 in
theorem wX12_typeTerms_J99 {k11 : mI → mA → Option (Int32 × mI × mA)} (C : mCx p s m args meth c RX12 cX12_typeTerms 6 none D cI cJ A) (hk11 : ∀  (iv : mI) (ar : mA) (rz : Int32) (ivz : mI) (arz : mA), k11 iv ar = some (rz, ivz, arz) → ∀ (H : Heap) (locs : List Loc) (ls : Array Slot), lv_has ls 6 [(0, .ref o)] → inW D A s (wM cI o ad iv ar) H locs → W p l e (rmO 8 191) s m args below meth c H locs 0 0 (MQ below (ctQv D cI cJ (wM cI o ad ivz arz) A) args s 0 0 A) (F0 m 11 ls [])) : ∀ (l2 : Int32) (l3 : Int32) (l4 : Int32) (iv : mI) (ar : mA) (rz : Int32) (ivz : mI) (arz : mA), mX12_typeTerms_J99 k11 l2 l3 l4 iv ar = some (rz, ivz, arz) → ∀ (H : Heap) (locs : List Loc) (ls : Array Slot), lv_has ls 6 [(0, .ref o), (2, .int l2), (3, .int l3), (4, .int l4)] → inW D A s (wM cI o ad iv ar) H locs → W p l e (rmO 8 191) s m args below meth c H locs 0 0 (MQ below (ctQv D cI cJ (wM cI o ad ivz arz) A) args s 0 0 A) (F0 m 99 ls []) := by
  intro l2 l3 l4 iv ar rz ivz arz hm H locs ls hl hw
  have hx := C.1.1
  have hb := C.1.2.1
  unfold mX12_typeTerms_J99 at hm
  refine lv_aload_n hx hb dX12_typeTerms_99 rfl (lv_at hl 0 rfl) ?_
  refine g_get C hw gM_24 dX12_typeTerms_100 ?_
  refine lv_if_ne (tgt := 118) hx hb dX12_typeTerms_103 (by decide) (fun hc => ?_) (fun hc => ?_)
  · have hm := it_f hc hm
    refine lv_goto (tgt := 148) hx hb dX12_typeTerms_118 (by decide) ?_
    refine lv_goto (tgt := 11) hx hb dX12_typeTerms_148 (by decide) ?_
    exact hk11 _ _ _ _ _ hm _ _ _ (lv_sub hl [0] rfl) hw
  · have hm := it_t hc hm
    refine lv_aload_n hx hb dX12_typeTerms_106 rfl (lv_at hl 0 rfl) ?_
    refine lv_aload_n hx hb dX12_typeTerms_107 rfl (lv_at hl 0 rfl) ?_
    refine lv_iload_n hx hb dX12_typeTerms_108 rfl (lv_at hl 1 rfl) ?_
    refine lv_iload_n hx hb dX12_typeTerms_109 rfl (lv_at hl 2 rfl) ?_
    obtain ⟨r110, iv110, ar110, hc110, hm⟩ := ob_some hm
    refine g_calli (As := [.int l2, .int l3]) (rest := [.ref o]) C hw (kX12_insideAt hc110) mtX12_insideAt lkX12_331 oM hl.1 rfl rfl (Nat.le_of_ble_eq_true rfl) ⟨Nat.le_of_ble_eq_true rfl, Nat.le_of_ble_eq_true rfl⟩ dX12_typeTerms_110 ⟨Nat.zero_le _, Nat.zero_le _⟩ (fun H locs hw => ?_)
    refine lv_iload hx hb dX12_typeTerms_113 (lv_at hl 3 rfl) ?_
    obtain ⟨r115, iv115, ar115, hc115, hm⟩ := ob_some hm
    refine g_callv (As := [.int r110, .int l4]) (rest := []) C hw (kX12_beginTyping hc115) mtX12_beginTyping lkX12_324 oM hl.1 rfl rfl (Nat.le_of_ble_eq_true rfl) ⟨Nat.le_of_ble_eq_true rfl, Nat.le_of_ble_eq_true rfl⟩ dX12_typeTerms_115 ⟨Nat.zero_le _, Nat.zero_le _⟩ (fun H locs hw => ?_)
    refine lv_goto (tgt := 148) hx hb dX12_typeTerms_118 (by decide) ?_
    refine lv_goto (tgt := 11) hx hb dX12_typeTerms_148 (by decide) ?_
    exact hk11 _ _ _ _ _ hm _ _ _ (lv_sub hl [0] rfl) hw
def mX12_typeTerms_L11 : Nat → mI → mA → Option (Int32 × mI × mA)
  | 0, _, _ => none
  | n + 1, iv, ar => if (iv 53) ≤ 0 then some (0, iv, ar) else if (iv 24) = 0 then if ((iv 53) - 1) < 0 ∨ 220 ≤ ((iv 53) - 1).toNatClampNeg then none else if ((iv 53) - 1) < 0 ∨ 220 ≤ ((iv 53) - 1).toNatClampNeg then none else if (ar 50 ((iv 53) - 1).toNatClampNeg) < 0 ∨ 200 ≤ (ar 50 ((iv 53) - 1).toNatClampNeg).toNatClampNeg then none else if (ar 38 (ar 50 ((iv 53) - 1).toNatClampNeg).toNatClampNeg) ≤ (ar 51 ((iv 53) - 1).toNatClampNeg) then if ((iv 53) - 1) < 0 ∨ 220 ≤ ((iv 53) - 1).toNatClampNeg then none else ob (mX12_typeDone (ar 50 ((iv 53) - 1).toNatClampNeg) (ar 52 ((iv 53) - 1).toNatClampNeg) iv ar) (fun r134 iv134 ar134 => if (ar 50 ((iv 53) - 1).toNatClampNeg) < 0 ∨ 200 ≤ (ar 50 ((iv 53) - 1).toNatClampNeg).toNatClampNeg then none else mX12_typeTerms_L11 n (va_up iv134 53 ((iv134 53) - 1)) (au ar134 54 (ar 50 ((iv 53) - 1).toNatClampNeg).toNatClampNeg r134)) else if ((iv 53) - 1) < 0 ∨ 220 ≤ ((iv 53) - 1).toNatClampNeg then none else if ((iv 53) - 1) < 0 ∨ 220 ≤ ((iv 53) - 1).toNatClampNeg then none else if ((iv 53) - 1) < 0 ∨ 220 ≤ ((iv 53) - 1).toNatClampNeg then none else ob (mX12_bindFor (ar 50 ((iv 53) - 1).toNatClampNeg) (ar 51 ((iv 53) - 1).toNatClampNeg) iv (au ar 51 ((iv 53) - 1).toNatClampNeg ((ar 51 ((iv 53) - 1).toNatClampNeg) + 1))) (fun r77 iv77 ar77 => if r77 < 0 then mX12_typeTerms_J99 (mX12_typeTerms_L11 n) (ar 50 ((iv 53) - 1).toNatClampNeg) (ar 51 ((iv 53) - 1).toNatClampNeg) ((au ar 51 ((iv 53) - 1).toNatClampNeg ((ar 51 ((iv 53) - 1).toNatClampNeg) + 1)) 52 ((iv 53) - 1).toNatClampNeg) iv77 ar77 else if ((au ar 51 ((iv 53) - 1).toNatClampNeg ((ar 51 ((iv 53) - 1).toNatClampNeg) + 1)) 52 ((iv 53) - 1).toNatClampNeg) < 0 ∨ 220 ≤ ((au ar 51 ((iv 53) - 1).toNatClampNeg ((ar 51 ((iv 53) - 1).toNatClampNeg) + 1)) 52 ((iv 53) - 1).toNatClampNeg).toNatClampNeg then none else mX12_typeTerms_J99 (mX12_typeTerms_L11 n) (ar 50 ((iv 53) - 1).toNatClampNeg) (ar 51 ((iv 53) - 1).toNatClampNeg) (((au ar 51 ((iv 53) - 1).toNatClampNeg ((ar 51 ((iv 53) - 1).toNatClampNeg) + 1)) 52 ((iv 53) - 1).toNatClampNeg) + 1) iv77 (au ar77 55 ((au ar 51 ((iv 53) - 1).toNatClampNeg ((ar 51 ((iv 53) - 1).toNatClampNeg) + 1)) 52 ((iv 53) - 1).toNatClampNeg).toNatClampNeg r77)) else some (0, iv, ar)
set_option maxRecDepth 100000 in
set_option maxHeartbeats 4000000 in
theorem wX12_typeTerms_L11 (C : mCx p s m args meth c RX12 cX12_typeTerms 6 none D cI cJ A) (n : Nat) : ∀  (iv : mI) (ar : mA) (rz : Int32) (ivz : mI) (arz : mA), mX12_typeTerms_L11 n iv ar = some (rz, ivz, arz) → ∀ (H : Heap) (locs : List Loc) (ls : Array Slot), lv_has ls 6 [(0, .ref o)] → inW D A s (wM cI o ad iv ar) H locs → W p l e (rmO 8 191) s m args below meth c H locs 0 0 (MQ below (ctQv D cI cJ (wM cI o ad ivz arz) A) args s 0 0 A) (F0 m 11 ls []) := by
  induction n with
  | zero =>
    intro iv ar rz ivz arz hm H locs ls hl hw
    have hm : (none : Option (Int32 × mI × mA)) = some _ := hm
    cases hm
  | succ n ih =>
    intro iv ar rz ivz arz hm H locs ls hl hw
    have hx := C.1.1
    have hb := C.1.2.1
    unfold mX12_typeTerms_L11 at hm
    refine lv_aload_n hx hb dX12_typeTerms_11 rfl (lv_at hl 0 rfl) ?_
    refine g_get C hw gM_53 dX12_typeTerms_12 ?_
    refine lv_if_le (tgt := 151) hx hb dX12_typeTerms_15 (by decide) (fun hc => ?_) (fun hc => ?_)
    · have hm := it_t hc hm
      cases hm
      exact g_vret C hw dX12_typeTerms_151
    · have hm := it_f hc hm
      refine lv_aload_n hx hb dX12_typeTerms_18 rfl (lv_at hl 0 rfl) ?_
      refine g_get C hw gM_24 dX12_typeTerms_19 ?_
      refine lv_if_ne (tgt := 151) hx hb dX12_typeTerms_22 (by decide) (fun hc => ?_) (fun hc => ?_)
      · have hm := it_f hc hm
        cases hm
        exact g_vret C hw dX12_typeTerms_151
      · have hm := it_t hc hm
        refine lv_aload_n hx hb dX12_typeTerms_25 rfl (lv_at hl 0 rfl) ?_
        refine g_get C hw gM_53 dX12_typeTerms_26 ?_
        refine lv_iconst (v := 1) hx hb dX12_typeTerms_29 ci_1 ?_
        refine lv_isub hx hb dX12_typeTerms_30 ?_
        refine lv_istore_n (lv' := [(1, .int ((iv 53) - 1)), (0, .ref o)]) hx hb dX12_typeTerms_31 rfl hl (by decide) rfl (fun ls hl => ?_)
        refine lv_aload_n hx hb dX12_typeTerms_32 rfl (lv_at hl 1 rfl) ?_
        refine g_get C hw gM_50 dX12_typeTerms_33 ?_
        refine lv_iload_n hx hb dX12_typeTerms_36 rfl (lv_at hl 0 rfl) ?_
        obtain ⟨hi, hm⟩ := it_a hm
        refine g_ald C hw aM_50 hi dX12_typeTerms_37 ?_
        refine lv_istore_n (lv' := [(2, .int (ar 50 ((iv 53) - 1).toNatClampNeg)), (1, .int ((iv 53) - 1)), (0, .ref o)]) hx hb dX12_typeTerms_38 rfl hl (by decide) rfl (fun ls hl => ?_)
        refine lv_aload_n hx hb dX12_typeTerms_39 rfl (lv_at hl 2 rfl) ?_
        refine g_get C hw gM_51 dX12_typeTerms_40 ?_
        refine lv_iload_n hx hb dX12_typeTerms_43 rfl (lv_at hl 1 rfl) ?_
        obtain ⟨hi, hm⟩ := it_a hm
        refine g_ald C hw aM_51 hi dX12_typeTerms_44 ?_
        refine lv_istore_n (lv' := [(3, .int (ar 51 ((iv 53) - 1).toNatClampNeg)), (2, .int (ar 50 ((iv 53) - 1).toNatClampNeg)), (1, .int ((iv 53) - 1)), (0, .ref o)]) hx hb dX12_typeTerms_45 rfl hl (by decide) rfl (fun ls hl => ?_)
        refine lv_iload_n hx hb dX12_typeTerms_46 rfl (lv_at hl 0 rfl) ?_
        refine lv_aload_n hx hb dX12_typeTerms_47 rfl (lv_at hl 3 rfl) ?_
        refine g_get C hw gM_38 dX12_typeTerms_48 ?_
        refine lv_iload_n hx hb dX12_typeTerms_51 rfl (lv_at hl 1 rfl) ?_
        obtain ⟨hi, hm⟩ := it_a hm
        refine g_ald C hw aM_38 hi dX12_typeTerms_52 ?_
        refine lv_icmp_ge (tgt := 121) hx hb dX12_typeTerms_53 (by decide) (fun hc => ?_) (fun hc => ?_)
        · have hm := it_t hc hm
          refine lv_aload_n hx hb dX12_typeTerms_121 rfl (lv_at hl 3 rfl) ?_
          refine g_get C hw gM_54 dX12_typeTerms_122 ?_
          refine lv_iload_n hx hb dX12_typeTerms_125 rfl (lv_at hl 1 rfl) ?_
          refine lv_aload_n hx hb dX12_typeTerms_126 rfl (lv_at hl 3 rfl) ?_
          refine lv_iload_n hx hb dX12_typeTerms_127 rfl (lv_at hl 1 rfl) ?_
          refine lv_aload_n hx hb dX12_typeTerms_128 rfl (lv_at hl 3 rfl) ?_
          refine g_get C hw gM_52 dX12_typeTerms_129 ?_
          refine lv_iload_n hx hb dX12_typeTerms_132 rfl (lv_at hl 2 rfl) ?_
          obtain ⟨hi, hm⟩ := it_a hm
          refine g_ald C hw aM_52 hi dX12_typeTerms_133 ?_
          obtain ⟨r134, iv134, ar134, hc134, hm⟩ := ob_some hm
          refine g_calli (As := [.int (ar 50 ((iv 53) - 1).toNatClampNeg), .int (ar 52 ((iv 53) - 1).toNatClampNeg)]) (rest := [.int (ar 50 ((iv 53) - 1).toNatClampNeg), .ref (ad 54)]) C hw (kX12_typeDone hc134) mtX12_typeDone lkX12_334 oM hl.1 rfl rfl (Nat.le_of_ble_eq_true rfl) ⟨Nat.le_of_ble_eq_true rfl, Nat.le_of_ble_eq_true rfl⟩ dX12_typeTerms_134 ⟨Nat.zero_le _, Nat.zero_le _⟩ (fun H locs hw => ?_)
          obtain ⟨hi, hm⟩ := it_a hm
          refine g_ast C hw sM_54 hi dX12_typeTerms_137 (fun H locs hw => ?_)
          refine lv_aload_n hx hb dX12_typeTerms_138 rfl (lv_at hl 3 rfl) ?_
          refine lv_dup hx hb dX12_typeTerms_139 rfl ?_
          refine g_get C hw gM_53 dX12_typeTerms_140 ?_
          refine lv_iconst (v := 1) hx hb dX12_typeTerms_143 ci_1 ?_
          refine lv_isub hx hb dX12_typeTerms_144 ?_
          refine g_put C hw pM_53 dX12_typeTerms_145 (fun H locs hw => ?_)
          refine lv_goto (tgt := 11) hx hb dX12_typeTerms_148 (by decide) ?_
          exact ih _ _ _ _ _ hm _ _ _ (lv_sub hl [3] rfl) hw
        · have hm := it_f hc hm
          refine lv_aload_n hx hb dX12_typeTerms_56 rfl (lv_at hl 3 rfl) ?_
          refine g_get C hw gM_51 dX12_typeTerms_57 ?_
          refine lv_iload_n hx hb dX12_typeTerms_60 rfl (lv_at hl 2 rfl) ?_
          refine lv_dup2_11 hx hb dX12_typeTerms_61 rfl rfl ?_
          obtain ⟨hi, hm⟩ := it_a hm
          refine g_ald C hw aM_51 hi dX12_typeTerms_62 ?_
          refine lv_iconst (v := 1) hx hb dX12_typeTerms_63 ci_1 ?_
          refine lv_iadd hx hb dX12_typeTerms_64 ?_
          obtain ⟨hi, hm⟩ := it_a hm
          refine g_ast C hw sM_51 hi dX12_typeTerms_65 (fun H locs hw => ?_)
          refine lv_aload_n hx hb dX12_typeTerms_66 rfl (lv_at hl 3 rfl) ?_
          refine g_get C hw gM_52 dX12_typeTerms_67 ?_
          refine lv_iload_n hx hb dX12_typeTerms_70 rfl (lv_at hl 2 rfl) ?_
          obtain ⟨hi, hm⟩ := it_a hm
          refine g_ald C hw aM_52 hi dX12_typeTerms_71 ?_
          refine lv_istore (lv' := [(4, .int ((au ar 51 ((iv 53) - 1).toNatClampNeg ((ar 51 ((iv 53) - 1).toNatClampNeg) + 1)) 52 ((iv 53) - 1).toNatClampNeg)), (3, .int (ar 51 ((iv 53) - 1).toNatClampNeg)), (2, .int (ar 50 ((iv 53) - 1).toNatClampNeg)), (1, .int ((iv 53) - 1)), (0, .ref o)]) hx hb dX12_typeTerms_72 hl (by decide) rfl (fun ls hl => ?_)
          refine lv_aload_n hx hb dX12_typeTerms_74 rfl (lv_at hl 4 rfl) ?_
          refine lv_iload_n hx hb dX12_typeTerms_75 rfl (lv_at hl 2 rfl) ?_
          refine lv_iload_n hx hb dX12_typeTerms_76 rfl (lv_at hl 1 rfl) ?_
          obtain ⟨r77, iv77, ar77, hc77, hm⟩ := ob_some hm
          refine g_calli (As := [.int (ar 50 ((iv 53) - 1).toNatClampNeg), .int (ar 51 ((iv 53) - 1).toNatClampNeg)]) (rest := []) C hw (kX12_bindFor hc77) mtX12_bindFor lkX12_328 oM hl.1 rfl rfl (Nat.le_of_ble_eq_true rfl) ⟨Nat.le_of_ble_eq_true rfl, Nat.le_of_ble_eq_true rfl⟩ dX12_typeTerms_77 ⟨Nat.zero_le _, Nat.zero_le _⟩ (fun H locs hw => ?_)
          refine lv_istore (lv' := [(5, .int r77), (4, .int ((au ar 51 ((iv 53) - 1).toNatClampNeg ((ar 51 ((iv 53) - 1).toNatClampNeg) + 1)) 52 ((iv 53) - 1).toNatClampNeg)), (3, .int (ar 51 ((iv 53) - 1).toNatClampNeg)), (2, .int (ar 50 ((iv 53) - 1).toNatClampNeg)), (1, .int ((iv 53) - 1)), (0, .ref o)]) hx hb dX12_typeTerms_80 hl (by decide) rfl (fun ls hl => ?_)
          refine lv_iload hx hb dX12_typeTerms_82 (lv_at hl 0 rfl) ?_
          refine lv_if_lt (tgt := 99) hx hb dX12_typeTerms_84 (by decide) (fun hc => ?_) (fun hc => ?_)
          · have hm := it_t hc hm
            exact wX12_typeTerms_J99 C ih _ _ _ _ _ _ _ _ hm _ _ _ (lv_sub hl [5, 3, 2, 1] rfl) hw
          · have hm := it_f hc hm
            refine lv_aload_n hx hb dX12_typeTerms_87 rfl (lv_at hl 5 rfl) ?_
            refine g_get C hw gM_55 dX12_typeTerms_88 ?_
            refine lv_iload hx hb dX12_typeTerms_91 (lv_at hl 1 rfl) ?_
            refine lv_iload hx hb dX12_typeTerms_93 (lv_at hl 0 rfl) ?_
            obtain ⟨hi, hm⟩ := it_a hm
            refine g_ast C hw sM_55 hi dX12_typeTerms_95 (fun H locs hw => ?_)
            refine lv_iinc (v := (((au ar 51 ((iv 53) - 1).toNatClampNeg ((ar 51 ((iv 53) - 1).toNatClampNeg) + 1)) 52 ((iv 53) - 1).toNatClampNeg) + 1)) (lv' := [(4, .int (((au ar 51 ((iv 53) - 1).toNatClampNeg ((ar 51 ((iv 53) - 1).toNatClampNeg) + 1)) 52 ((iv 53) - 1).toNatClampNeg) + 1)), (5, .int r77), (3, .int (ar 51 ((iv 53) - 1).toNatClampNeg)), (2, .int (ar 50 ((iv 53) - 1).toNatClampNeg)), (1, .int ((iv 53) - 1)), (0, .ref o)]) hx hb dX12_typeTerms_96 hl (k := 1) rfl (ii_ ci_1) (by decide) rfl (fun ls hl => ?_)
            exact wX12_typeTerms_J99 C ih _ _ _ _ _ _ _ _ hm _ _ _ (lv_sub hl [5, 3, 2, 0] rfl) hw
def mX12_typeTerms  (iv : mI) (ar : mA) : Option (Int32 × mI × mA) := ob (mX12_beginTyping 0 0 (va_up iv 53 0) ar) (fun r8 iv8 ar8 => mX12_typeTerms_L11 bigF iv8 ar8)
set_option maxRecDepth 100000 in
set_option maxHeartbeats 4000000 in
theorem kX12_typeTerms {iv ivz : mI} {ar arz : mA} {rz : Int32} (hm : mX12_typeTerms iv ar = some (rz, ivz, arz)) : CtV l D cI cJ yX12_typeTerms cX12_typeTerms 6 8 191 [.ref o] (wM cI o ad iv ar) (wM cI o ad ivz arz) := by
  intro sz
  refine ct_of (by decide) (Nat.le_of_ble_eq_true rfl) ?_
  intro p e s m args below meth c C hw ls hl
  have hl : lv_has ls 6 [(0, .ref o)] := hl
  have hx := C.1.1
  have hb := C.1.2.1
  unfold mX12_typeTerms at hm
  refine lv_aload_n hx hb dX12_typeTerms_0 rfl (lv_at hl 0 rfl) ?_
  refine lv_iconst (v := 0) hx hb dX12_typeTerms_1 ci_0 ?_
  refine g_put C hw pM_53 dX12_typeTerms_2 (fun H locs hw => ?_)
  refine lv_aload_n hx hb dX12_typeTerms_5 rfl (lv_at hl 0 rfl) ?_
  refine lv_iconst (v := 0) hx hb dX12_typeTerms_6 ci_0 ?_
  refine lv_iconst (v := 0) hx hb dX12_typeTerms_7 ci_0 ?_
  obtain ⟨r8, iv8, ar8, hc8, hm⟩ := ob_some hm
  refine g_callv (As := [.int 0, .int 0]) (rest := []) C hw (kX12_beginTyping hc8) mtX12_beginTyping lkX12_324 oM hl.1 rfl rfl (Nat.le_of_ble_eq_true rfl) ⟨Nat.le_of_ble_eq_true rfl, Nat.le_of_ble_eq_true rfl⟩ dX12_typeTerms_8 ⟨Nat.zero_le _, Nat.zero_le _⟩ (fun H locs hw => ?_)
  exact wX12_typeTerms_L11 C bigF _ _ _ _ _ hm _ _ _ (lv_sub hl [0] rfl) hw
def mX12_term_L167 (k106 : Int32 → mI → mA → Option (Int32 × mI × mA)) : Nat → Int32 → Int32 → mI → mA → Option (Int32 × mI × mA)
  | 0, _, _, _, _ => none
  | n + 1, l2, l3, iv, ar => if ((9 * l2) + 9) ≤ l3 then k106 (l2 + 1) iv ar else if l3 < 0 ∨ 1800 ≤ l3.toNatClampNeg then none else if l3 < 0 ∨ 1800 ≤ l3.toNatClampNeg then none else if l3 < 0 ∨ 1800 ≤ l3.toNatClampNeg then none else if l3 < 0 ∨ 1800 ≤ l3.toNatClampNeg then none else mX12_term_L167 k106 n l2 (l3 + 1) iv (au (au ar 43 l3.toNatClampNeg (ar 36 l3.toNatClampNeg)) 44 l3.toNatClampNeg ((au ar 43 l3.toNatClampNeg (ar 36 l3.toNatClampNeg)) 37 l3.toNatClampNeg))
set_option maxRecDepth 100000 in
set_option maxHeartbeats 4000000 in
theorem wX12_term_L167 {k106 : Int32 → mI → mA → Option (Int32 × mI × mA)} (C : mCx p s m args meth c RX12 cX12_term 4 (some .int) D cI cJ A) (hk106 : ∀ (l2 : Int32) (iv : mI) (ar : mA) (rz : Int32) (ivz : mI) (arz : mA), k106 l2 iv ar = some (rz, ivz, arz) → ∀ (H : Heap) (locs : List Loc) (ls : Array Slot), lv_has ls 4 [(0, .ref o), (2, .int l2)] → inW D A s (wM cI o ad iv ar) H locs → W p l e (rmO 9 216) s m args below meth c H locs 0 0 (MQ below (ctQ D cI cJ (wM cI o ad ivz arz) A rz) args s 0 0 A) (F0 m 106 ls [])) (n : Nat) : ∀ (l2 : Int32) (l3 : Int32) (iv : mI) (ar : mA) (rz : Int32) (ivz : mI) (arz : mA), mX12_term_L167 k106 n l2 l3 iv ar = some (rz, ivz, arz) → ∀ (H : Heap) (locs : List Loc) (ls : Array Slot), lv_has ls 4 [(0, .ref o), (2, .int l2), (3, .int l3)] → inW D A s (wM cI o ad iv ar) H locs → W p l e (rmO 9 216) s m args below meth c H locs 0 0 (MQ below (ctQ D cI cJ (wM cI o ad ivz arz) A rz) args s 0 0 A) (F0 m 167 ls []) := by
  induction n with
  | zero =>
    intro l2 l3 iv ar rz ivz arz hm H locs ls hl hw
    have hm : (none : Option (Int32 × mI × mA)) = some _ := hm
    cases hm
  | succ n ih =>
    intro l2 l3 iv ar rz ivz arz hm H locs ls hl hw
    have hx := C.1.1
    have hb := C.1.2.1
    unfold mX12_term_L167 at hm
    refine lv_iload_n hx hb dX12_term_167 rfl (lv_at hl 2 rfl) ?_
    refine lv_bipush (v := 9) hx hb dX12_term_168 cb_9 ?_
    refine lv_iload_n hx hb dX12_term_170 rfl (lv_at hl 1 rfl) ?_
    refine lv_imul hx hb dX12_term_171 ?_
    refine lv_bipush (v := 9) hx hb dX12_term_172 cb_9 ?_
    refine lv_iadd hx hb dX12_term_174 ?_
    refine lv_icmp_ge (tgt := 208) hx hb dX12_term_175 (by decide) (fun hc => ?_) (fun hc => ?_)
    · have hm := it_t hc hm
      refine lv_iinc (v := (l2 + 1)) (lv' := [(2, .int (l2 + 1)), (0, .ref o), (3, .int l3)]) hx hb dX12_term_208 hl (k := 1) rfl (ii_ ci_1) (by decide) rfl (fun ls hl => ?_)
      refine lv_goto (tgt := 106) hx hb dX12_term_211 (by decide) ?_
      exact hk106 _ _ _ _ _ _ hm _ _ _ (lv_sub hl [1, 0] rfl) hw
    · have hm := it_f hc hm
      refine lv_aload_n hx hb dX12_term_178 rfl (lv_at hl 0 rfl) ?_
      refine g_get C hw gM_43 dX12_term_179 ?_
      refine lv_iload_n hx hb dX12_term_182 rfl (lv_at hl 2 rfl) ?_
      refine lv_aload_n hx hb dX12_term_183 rfl (lv_at hl 0 rfl) ?_
      refine g_get C hw gM_36 dX12_term_184 ?_
      refine lv_iload_n hx hb dX12_term_187 rfl (lv_at hl 2 rfl) ?_
      obtain ⟨hi, hm⟩ := it_a hm
      refine g_ald C hw aM_36 hi dX12_term_188 ?_
      obtain ⟨hi, hm⟩ := it_a hm
      refine g_ast C hw sM_43 hi dX12_term_189 (fun H locs hw => ?_)
      refine lv_aload_n hx hb dX12_term_190 rfl (lv_at hl 0 rfl) ?_
      refine g_get C hw gM_44 dX12_term_191 ?_
      refine lv_iload_n hx hb dX12_term_194 rfl (lv_at hl 2 rfl) ?_
      refine lv_aload_n hx hb dX12_term_195 rfl (lv_at hl 0 rfl) ?_
      refine g_get C hw gM_37 dX12_term_196 ?_
      refine lv_iload_n hx hb dX12_term_199 rfl (lv_at hl 2 rfl) ?_
      obtain ⟨hi, hm⟩ := it_a hm
      refine g_ald C hw aM_37 hi dX12_term_200 ?_
      obtain ⟨hi, hm⟩ := it_a hm
      refine g_ast C hw sM_44 hi dX12_term_201 (fun H locs hw => ?_)
      refine lv_iinc (v := (l3 + 1)) (lv' := [(3, .int (l3 + 1)), (0, .ref o), (2, .int l2)]) hx hb dX12_term_202 hl (k := 2) rfl (ii_ ci_1) (by decide) rfl (fun ls hl => ?_)
      refine lv_goto (tgt := 167) hx hb dX12_term_205 (by decide) ?_
      exact ih _ _ _ _ _ _ _ hm _ _ _ (lv_sub hl [1, 2, 0] rfl) hw
def mX12_term_L106 : Nat → Int32 → mI → mA → Option (Int32 × mI × mA)
  | 0, _, _, _ => none
  | n + 1, l2, iv, ar => if (iv 31) ≤ l2 then if (0 : Int32) < 0 ∨ 200 ≤ (0 : Int32).toNatClampNeg then none else some ((ar 54 (0 : Int32).toNatClampNeg), iv, ar) else if l2 < 0 ∨ 200 ≤ l2.toNatClampNeg then none else if l2 < 0 ∨ 200 ≤ l2.toNatClampNeg then none else if l2 < 0 ∨ 200 ≤ l2.toNatClampNeg then none else if l2 < 0 ∨ 200 ≤ l2.toNatClampNeg then none else if l2 < 0 ∨ 200 ≤ l2.toNatClampNeg then none else if l2 < 0 ∨ 200 ≤ l2.toNatClampNeg then none else if l2 < 0 ∨ 200 ≤ l2.toNatClampNeg then none else if l2 < 0 ∨ 200 ≤ l2.toNatClampNeg then none else mX12_term_L167 (mX12_term_L106 n) bigF l2 (9 * l2) iv (au (au (au (au ar 40 l2.toNatClampNeg (ar 32 l2.toNatClampNeg)) 41 l2.toNatClampNeg ((au ar 40 l2.toNatClampNeg (ar 32 l2.toNatClampNeg)) 34 l2.toNatClampNeg)) 42 l2.toNatClampNeg ((au (au ar 40 l2.toNatClampNeg (ar 32 l2.toNatClampNeg)) 41 l2.toNatClampNeg ((au ar 40 l2.toNatClampNeg (ar 32 l2.toNatClampNeg)) 34 l2.toNatClampNeg)) 35 l2.toNatClampNeg)) 45 l2.toNatClampNeg ((au (au (au ar 40 l2.toNatClampNeg (ar 32 l2.toNatClampNeg)) 41 l2.toNatClampNeg ((au ar 40 l2.toNatClampNeg (ar 32 l2.toNatClampNeg)) 34 l2.toNatClampNeg)) 42 l2.toNatClampNeg ((au (au ar 40 l2.toNatClampNeg (ar 32 l2.toNatClampNeg)) 41 l2.toNatClampNeg ((au ar 40 l2.toNatClampNeg (ar 32 l2.toNatClampNeg)) 34 l2.toNatClampNeg)) 35 l2.toNatClampNeg)) 38 l2.toNatClampNeg))
set_option maxRecDepth 100000 in
set_option maxHeartbeats 4000000 in
theorem wX12_term_L106 (C : mCx p s m args meth c RX12 cX12_term 4 (some .int) D cI cJ A) (n : Nat) : ∀ (l2 : Int32) (iv : mI) (ar : mA) (rz : Int32) (ivz : mI) (arz : mA), mX12_term_L106 n l2 iv ar = some (rz, ivz, arz) → ∀ (H : Heap) (locs : List Loc) (ls : Array Slot), lv_has ls 4 [(0, .ref o), (2, .int l2)] → inW D A s (wM cI o ad iv ar) H locs → W p l e (rmO 9 216) s m args below meth c H locs 0 0 (MQ below (ctQ D cI cJ (wM cI o ad ivz arz) A rz) args s 0 0 A) (F0 m 106 ls []) := by
  induction n with
  | zero =>
    intro l2 iv ar rz ivz arz hm H locs ls hl hw
    have hm : (none : Option (Int32 × mI × mA)) = some _ := hm
    cases hm
  | succ n ih =>
    intro l2 iv ar rz ivz arz hm H locs ls hl hw
    have hx := C.1.1
    have hb := C.1.2.1
    unfold mX12_term_L106 at hm
    refine lv_iload_n hx hb dX12_term_106 rfl (lv_at hl 1 rfl) ?_
    refine lv_aload_n hx hb dX12_term_107 rfl (lv_at hl 0 rfl) ?_
    refine g_get C hw gM_31 dX12_term_108 ?_
    refine lv_icmp_ge (tgt := 214) hx hb dX12_term_111 (by decide) (fun hc => ?_) (fun hc => ?_)
    · have hm := it_t hc hm
      refine lv_aload_n hx hb dX12_term_214 rfl (lv_at hl 0 rfl) ?_
      refine g_get C hw gM_54 dX12_term_215 ?_
      refine lv_iconst (v := 0) hx hb dX12_term_218 ci_0 ?_
      obtain ⟨hi, hm⟩ := it_a hm
      refine g_ald C hw aM_54 hi dX12_term_219 ?_
      cases hm
      exact g_iret C hw dX12_term_220
    · have hm := it_f hc hm
      refine lv_aload_n hx hb dX12_term_114 rfl (lv_at hl 0 rfl) ?_
      refine g_get C hw gM_40 dX12_term_115 ?_
      refine lv_iload_n hx hb dX12_term_118 rfl (lv_at hl 1 rfl) ?_
      refine lv_aload_n hx hb dX12_term_119 rfl (lv_at hl 0 rfl) ?_
      refine g_get C hw gM_32 dX12_term_120 ?_
      refine lv_iload_n hx hb dX12_term_123 rfl (lv_at hl 1 rfl) ?_
      obtain ⟨hi, hm⟩ := it_a hm
      refine g_ald C hw aM_32 hi dX12_term_124 ?_
      obtain ⟨hi, hm⟩ := it_a hm
      refine g_ast C hw sM_40 hi dX12_term_125 (fun H locs hw => ?_)
      refine lv_aload_n hx hb dX12_term_126 rfl (lv_at hl 0 rfl) ?_
      refine g_get C hw gM_41 dX12_term_127 ?_
      refine lv_iload_n hx hb dX12_term_130 rfl (lv_at hl 1 rfl) ?_
      refine lv_aload_n hx hb dX12_term_131 rfl (lv_at hl 0 rfl) ?_
      refine g_get C hw gM_34 dX12_term_132 ?_
      refine lv_iload_n hx hb dX12_term_135 rfl (lv_at hl 1 rfl) ?_
      obtain ⟨hi, hm⟩ := it_a hm
      refine g_ald C hw aM_34 hi dX12_term_136 ?_
      obtain ⟨hi, hm⟩ := it_a hm
      refine g_ast C hw sM_41 hi dX12_term_137 (fun H locs hw => ?_)
      refine lv_aload_n hx hb dX12_term_138 rfl (lv_at hl 0 rfl) ?_
      refine g_get C hw gM_42 dX12_term_139 ?_
      refine lv_iload_n hx hb dX12_term_142 rfl (lv_at hl 1 rfl) ?_
      refine lv_aload_n hx hb dX12_term_143 rfl (lv_at hl 0 rfl) ?_
      refine g_get C hw gM_35 dX12_term_144 ?_
      refine lv_iload_n hx hb dX12_term_147 rfl (lv_at hl 1 rfl) ?_
      obtain ⟨hi, hm⟩ := it_a hm
      refine g_ald C hw aM_35 hi dX12_term_148 ?_
      obtain ⟨hi, hm⟩ := it_a hm
      refine g_ast C hw sM_42 hi dX12_term_149 (fun H locs hw => ?_)
      refine lv_aload_n hx hb dX12_term_150 rfl (lv_at hl 0 rfl) ?_
      refine g_get C hw gM_45 dX12_term_151 ?_
      refine lv_iload_n hx hb dX12_term_154 rfl (lv_at hl 1 rfl) ?_
      refine lv_aload_n hx hb dX12_term_155 rfl (lv_at hl 0 rfl) ?_
      refine g_get C hw gM_38 dX12_term_156 ?_
      refine lv_iload_n hx hb dX12_term_159 rfl (lv_at hl 1 rfl) ?_
      obtain ⟨hi, hm⟩ := it_a hm
      refine g_ald C hw aM_38 hi dX12_term_160 ?_
      obtain ⟨hi, hm⟩ := it_a hm
      refine g_ast C hw sM_45 hi dX12_term_161 (fun H locs hw => ?_)
      refine lv_bipush (v := 9) hx hb dX12_term_162 cb_9 ?_
      refine lv_iload_n hx hb dX12_term_164 rfl (lv_at hl 1 rfl) ?_
      refine lv_imul hx hb dX12_term_165 ?_
      refine lv_istore_n (lv' := [(3, .int (9 * l2)), (0, .ref o), (2, .int l2)]) hx hb dX12_term_166 rfl hl (by decide) rfl (fun ls hl => ?_)
      exact wX12_term_L167 C ih bigF _ _ _ _ _ _ _ hm _ _ _ (lv_sub hl [1, 2, 0] rfl) hw
def mX12_term_J74 (l1 : Int32) (iv : mI) (ar : mA) : Option (Int32 × mI × mA) := if (iv 24) = 0 then mX12_term_L106 bigF 0 (va_up (va_up iv 30 1) 39 ((va_up iv 30 1) 31)) ar else some (((va_up iv 3 l1) 24), va_up iv 3 l1, ar)
set_option maxRecDepth 100000 in
set_option maxHeartbeats 4000000 in
theorem wX12_term_J74 (C : mCx p s m args meth c RX12 cX12_term 4 (some .int) D cI cJ A) : ∀ (l1 : Int32) (iv : mI) (ar : mA) (rz : Int32) (ivz : mI) (arz : mA), mX12_term_J74 l1 iv ar = some (rz, ivz, arz) → ∀ (H : Heap) (locs : List Loc) (ls : Array Slot), lv_has ls 4 [(0, .ref o), (1, .int l1)] → inW D A s (wM cI o ad iv ar) H locs → W p l e (rmO 9 216) s m args below meth c H locs 0 0 (MQ below (ctQ D cI cJ (wM cI o ad ivz arz) A rz) args s 0 0 A) (F0 m 74 ls []) := by
  intro l1 iv ar rz ivz arz hm H locs ls hl hw
  have hx := C.1.1
  have hb := C.1.2.1
  unfold mX12_term_J74 at hm
  refine lv_aload_n hx hb dX12_term_74 rfl (lv_at hl 0 rfl) ?_
  refine g_get C hw gM_24 dX12_term_75 ?_
  refine lv_if_eq (tgt := 91) hx hb dX12_term_78 (by decide) (fun hc => ?_) (fun hc => ?_)
  · have hm := it_t hc hm
    refine lv_aload_n hx hb dX12_term_91 rfl (lv_at hl 0 rfl) ?_
    refine lv_iconst (v := 1) hx hb dX12_term_92 ci_1 ?_
    refine g_put C hw pM_30_1 dX12_term_93 (fun H locs hw => ?_)
    refine lv_aload_n hx hb dX12_term_96 rfl (lv_at hl 0 rfl) ?_
    refine lv_aload_n hx hb dX12_term_97 rfl (lv_at hl 0 rfl) ?_
    refine g_get C hw gM_31 dX12_term_98 ?_
    refine g_put C hw pM_39 dX12_term_101 (fun H locs hw => ?_)
    refine lv_iconst (v := 0) hx hb dX12_term_104 ci_0 ?_
    refine lv_istore_n (lv' := [(2, .int 0), (0, .ref o), (1, .int l1)]) hx hb dX12_term_105 rfl hl (by decide) rfl (fun ls hl => ?_)
    exact wX12_term_L106 C bigF _ _ _ _ _ _ hm _ _ _ (lv_sub hl [1, 0] rfl) hw
  · have hm := it_f hc hm
    refine lv_aload_n hx hb dX12_term_81 rfl (lv_at hl 0 rfl) ?_
    refine lv_iload_n hx hb dX12_term_82 rfl (lv_at hl 1 rfl) ?_
    refine g_put C hw pM_3 dX12_term_83 (fun H locs hw => ?_)
    refine lv_aload_n hx hb dX12_term_86 rfl (lv_at hl 0 rfl) ?_
    refine g_get C hw gM_24 dX12_term_87 ?_
    cases hm
    exact g_iret C hw dX12_term_90
def mX12_term_J58 (l1 : Int32) (iv : mI) (ar : mA) : Option (Int32 × mI × mA) := if ((va_up iv 0 0) 24) = 0 then ob (mX12_typeTerms (va_up iv 0 0) ar) (fun r71 iv71 ar71 => mX12_term_J74 l1 iv71 ar71) else mX12_term_J74 l1 (va_up iv 0 0) ar
set_option maxRecDepth 100000 in
set_option maxHeartbeats 4000000 in
theorem wX12_term_J58 (C : mCx p s m args meth c RX12 cX12_term 4 (some .int) D cI cJ A) : ∀ (l1 : Int32) (iv : mI) (ar : mA) (rz : Int32) (ivz : mI) (arz : mA), mX12_term_J58 l1 iv ar = some (rz, ivz, arz) → ∀ (H : Heap) (locs : List Loc) (ls : Array Slot), lv_has ls 4 [(0, .ref o), (1, .int l1)] → inW D A s (wM cI o ad iv ar) H locs → W p l e (rmO 9 216) s m args below meth c H locs 0 0 (MQ below (ctQ D cI cJ (wM cI o ad ivz arz) A rz) args s 0 0 A) (F0 m 58 ls []) := by
  intro l1 iv ar rz ivz arz hm H locs ls hl hw
  have hx := C.1.1
  have hb := C.1.2.1
  unfold mX12_term_J58 at hm
  refine lv_aload_n hx hb dX12_term_58 rfl (lv_at hl 0 rfl) ?_
  refine lv_iconst (v := 0) hx hb dX12_term_59 ci_0 ?_
  refine g_put C hw pM_0 dX12_term_60 (fun H locs hw => ?_)
  refine lv_aload_n hx hb dX12_term_63 rfl (lv_at hl 0 rfl) ?_
  refine g_get C hw gM_24 dX12_term_64 ?_
  refine lv_if_ne (tgt := 74) hx hb dX12_term_67 (by decide) (fun hc => ?_) (fun hc => ?_)
  · have hm := it_f hc hm
    exact wX12_term_J74 C _ _ _ _ _ _ hm _ _ _ (lv_sub hl [0, 1] rfl) hw
  · have hm := it_t hc hm
    refine lv_aload_n hx hb dX12_term_70 rfl (lv_at hl 0 rfl) ?_
    obtain ⟨r71, iv71, ar71, hc71, hm⟩ := ob_some hm
    refine g_callv (As := []) (rest := []) C hw (kX12_typeTerms hc71) mtX12_typeTerms lkX12_364 oM hl.1 rfl rfl (Nat.le_of_ble_eq_true rfl) ⟨Nat.le_of_ble_eq_true rfl, Nat.le_of_ble_eq_true rfl⟩ dX12_term_71 ⟨Nat.zero_le _, Nat.zero_le _⟩ (fun H locs hw => ?_)
    exact wX12_term_J74 C _ _ _ _ _ _ hm _ _ _ (lv_sub hl [0, 1] rfl) hw
def mX12_term  (iv : mI) (ar : mA) : Option (Int32 × mI × mA) := ob (mX12_readTerms (va_up (va_up (va_up iv 23 0) 24 0) 2 (-1)) ar) (fun r21 iv21 ar21 => if (iv21 24) = 0 then if (iv21 0) ≤ (iv21 23) then mX12_term_J58 (iv 3) iv21 ar21 else ob (mX12_fail (-14) (iv21 23) iv21 ar21) (fun r49 iv49 ar49 => mX12_term_J58 (iv 3) (va_up iv49 24 r49) ar49) else mX12_term_J58 (iv 3) iv21 ar21)
set_option maxRecDepth 100000 in
set_option maxHeartbeats 4000000 in
theorem kX12_term {iv ivz : mI} {ar arz : mA} {rz : Int32} (hm : mX12_term iv ar = some (rz, ivz, arz)) : Ct l D cI cJ yX12_term cX12_term 4 (some .int) 9 216 [.ref o] (wM cI o ad iv ar) (wM cI o ad ivz arz) rz := by
  intro sz
  refine ct_of (by decide) (Nat.le_of_ble_eq_true rfl) ?_
  intro p e s m args below meth c C hw ls hl
  have hl : lv_has ls 4 [(0, .ref o)] := hl
  have hx := C.1.1
  have hb := C.1.2.1
  unfold mX12_term at hm
  refine lv_aload_n hx hb dX12_term_0 rfl (lv_at hl 0 rfl) ?_
  refine g_get C hw gM_3 dX12_term_1 ?_
  refine lv_istore_n (lv' := [(1, .int (iv 3)), (0, .ref o)]) hx hb dX12_term_4 rfl hl (by decide) rfl (fun ls hl => ?_)
  refine lv_aload_n hx hb dX12_term_5 rfl (lv_at hl 1 rfl) ?_
  refine lv_iconst (v := 0) hx hb dX12_term_6 ci_0 ?_
  refine g_put C hw pM_23 dX12_term_7 (fun H locs hw => ?_)
  refine lv_aload_n hx hb dX12_term_10 rfl (lv_at hl 1 rfl) ?_
  refine lv_iconst (v := 0) hx hb dX12_term_11 ci_0 ?_
  refine g_put C hw pM_24 dX12_term_12 (fun H locs hw => ?_)
  refine lv_aload_n hx hb dX12_term_15 rfl (lv_at hl 1 rfl) ?_
  refine lv_iconst (v := (-1)) hx hb dX12_term_16 ci_m1 ?_
  refine g_put C hw pM_2 dX12_term_17 (fun H locs hw => ?_)
  refine lv_aload_n hx hb dX12_term_20 rfl (lv_at hl 1 rfl) ?_
  obtain ⟨r21, iv21, ar21, hc21, hm⟩ := ob_some hm
  refine g_callv (As := []) (rest := []) C hw (kX12_readTerms hc21) mtX12_readTerms lkX12_361 oM hl.1 rfl rfl (Nat.le_of_ble_eq_true rfl) ⟨Nat.le_of_ble_eq_true rfl, Nat.le_of_ble_eq_true rfl⟩ dX12_term_21 ⟨Nat.zero_le _, Nat.zero_le _⟩ (fun H locs hw => ?_)
  refine lv_aload_n hx hb dX12_term_24 rfl (lv_at hl 1 rfl) ?_
  refine g_get C hw gM_24 dX12_term_25 ?_
  refine lv_if_ne (tgt := 58) hx hb dX12_term_28 (by decide) (fun hc => ?_) (fun hc => ?_)
  · have hm := it_f hc hm
    exact wX12_term_J58 C _ _ _ _ _ _ hm _ _ _ (lv_sub hl [1, 0] rfl) hw
  · have hm := it_t hc hm
    refine lv_aload_n hx hb dX12_term_31 rfl (lv_at hl 1 rfl) ?_
    refine g_get C hw gM_23 dX12_term_32 ?_
    refine lv_aload_n hx hb dX12_term_35 rfl (lv_at hl 1 rfl) ?_
    refine g_get C hw gM_0 dX12_term_36 ?_
    refine lv_icmp_ge (tgt := 58) hx hb dX12_term_39 (by decide) (fun hc => ?_) (fun hc => ?_)
    · have hm := it_t hc hm
      exact wX12_term_J58 C _ _ _ _ _ _ hm _ _ _ (lv_sub hl [1, 0] rfl) hw
    · have hm := it_f hc hm
      refine lv_aload_n hx hb dX12_term_42 rfl (lv_at hl 1 rfl) ?_
      refine lv_bipush (v := (-14)) hx hb dX12_term_43 cb_m14 ?_
      refine lv_aload_n hx hb dX12_term_45 rfl (lv_at hl 1 rfl) ?_
      refine g_get C hw gM_23 dX12_term_46 ?_
      obtain ⟨r49, iv49, ar49, hc49, hm⟩ := ob_some hm
      refine g_calli (As := [.int (-14), .int (iv21 23)]) (rest := []) C hw (kX12_fail hc49) mtX12_fail lkX12_207 oM hl.1 rfl rfl (Nat.le_of_ble_eq_true rfl) ⟨Nat.le_of_ble_eq_true rfl, Nat.le_of_ble_eq_true rfl⟩ dX12_term_49 ⟨Nat.zero_le _, Nat.zero_le _⟩ (fun H locs hw => ?_)
      refine lv_istore_n (lv' := [(2, .int r49), (1, .int (iv 3)), (0, .ref o)]) hx hb dX12_term_52 rfl hl (by decide) rfl (fun ls hl => ?_)
      refine lv_aload_n hx hb dX12_term_53 rfl (lv_at hl 2 rfl) ?_
      refine lv_iload_n hx hb dX12_term_54 rfl (lv_at hl 0 rfl) ?_
      refine g_put C hw pM_24 dX12_term_55 (fun H locs hw => ?_)
      exact wX12_term_J58 C _ _ _ _ _ _ hm _ _ _ (lv_sub hl [2, 1] rfl) hw
def mX12_newValue_L40 : Nat → Int32 → mI → mA → Option (Int32 × mI × mA)
  | 0, _, _, _ => none
  | n + 1, l3, iv, ar => if 8 ≤ l3 then some ((((va_up iv 56 ((iv 56) + 1)) 56) - 1), va_up iv 56 ((iv 56) + 1), ar) else if ((8 * (iv 56)) + l3) < 0 ∨ 16000 ≤ ((8 * (iv 56)) + l3).toNatClampNeg then none else mX12_newValue_L40 n (l3 + 1) iv (au ar 60 ((8 * (iv 56)) + l3).toNatClampNeg (-1))
set_option maxRecDepth 100000 in
set_option maxHeartbeats 4000000 in
theorem wX12_newValue_L40 (C : mCx p s m args meth c RX12 cX12_newValue 4 (some .int) D cI cJ A) (n : Nat) : ∀ (l3 : Int32) (iv : mI) (ar : mA) (rz : Int32) (ivz : mI) (arz : mA), mX12_newValue_L40 n l3 iv ar = some (rz, ivz, arz) → ∀ (H : Heap) (locs : List Loc) (ls : Array Slot), lv_has ls 4 [(0, .ref o), (3, .int l3)] → inW D A s (wM cI o ad iv ar) H locs → W p l e (rmO 0 0) s m args below meth c H locs 0 0 (MQ below (ctQ D cI cJ (wM cI o ad ivz arz) A rz) args s 0 0 A) (F0 m 40 ls []) := by
  induction n with
  | zero =>
    intro l3 iv ar rz ivz arz hm H locs ls hl hw
    have hm : (none : Option (Int32 × mI × mA)) = some _ := hm
    cases hm
  | succ n ih =>
    intro l3 iv ar rz ivz arz hm H locs ls hl hw
    have hx := C.1.1
    have hb := C.1.2.1
    unfold mX12_newValue_L40 at hm
    refine lv_iload_n hx hb dX12_newValue_40 rfl (lv_at hl 1 rfl) ?_
    refine lv_bipush (v := 8) hx hb dX12_newValue_41 cb_8 ?_
    refine lv_icmp_ge (tgt := 67) hx hb dX12_newValue_43 (by decide) (fun hc => ?_) (fun hc => ?_)
    · have hm := it_t hc hm
      refine lv_aload_n hx hb dX12_newValue_67 rfl (lv_at hl 0 rfl) ?_
      refine lv_dup hx hb dX12_newValue_68 rfl ?_
      refine g_get C hw gM_56 dX12_newValue_69 ?_
      refine lv_iconst (v := 1) hx hb dX12_newValue_72 ci_1 ?_
      refine lv_iadd hx hb dX12_newValue_73 ?_
      refine g_put C hw pM_56 dX12_newValue_74 (fun H locs hw => ?_)
      refine lv_aload_n hx hb dX12_newValue_77 rfl (lv_at hl 0 rfl) ?_
      refine g_get C hw gM_56 dX12_newValue_78 ?_
      refine lv_iconst (v := 1) hx hb dX12_newValue_81 ci_1 ?_
      refine lv_isub hx hb dX12_newValue_82 ?_
      cases hm
      exact g_iret C hw dX12_newValue_83
    · have hm := it_f hc hm
      refine lv_aload_n hx hb dX12_newValue_46 rfl (lv_at hl 0 rfl) ?_
      refine g_get C hw gM_60 dX12_newValue_47 ?_
      refine lv_bipush (v := 8) hx hb dX12_newValue_50 cb_8 ?_
      refine lv_aload_n hx hb dX12_newValue_52 rfl (lv_at hl 0 rfl) ?_
      refine g_get C hw gM_56 dX12_newValue_53 ?_
      refine lv_imul hx hb dX12_newValue_56 ?_
      refine lv_iload_n hx hb dX12_newValue_57 rfl (lv_at hl 1 rfl) ?_
      refine lv_iadd hx hb dX12_newValue_58 ?_
      refine lv_iconst (v := (-1)) hx hb dX12_newValue_59 ci_m1 ?_
      obtain ⟨hi, hm⟩ := it_a hm
      refine g_ast C hw sM_60 hi dX12_newValue_60 (fun H locs hw => ?_)
      refine lv_iinc (v := (l3 + 1)) (lv' := [(3, .int (l3 + 1)), (0, .ref o)]) hx hb dX12_newValue_61 hl (k := 1) rfl (ii_ ci_1) (by decide) rfl (fun ls hl => ?_)
      refine lv_goto (tgt := 40) hx hb dX12_newValue_64 (by decide) ?_
      exact ih _ _ _ _ _ _ hm _ _ _ (lv_sub hl [1, 0] rfl) hw
def mX12_newValue (a1 : Int32) (a2 : Int32) (iv : mI) (ar : mA) : Option (Int32 × mI × mA) := if (iv 56) = 2000 then some ((-1), va_up iv 72 (-16), ar) else if (iv 56) < 0 ∨ 2000 ≤ (iv 56).toNatClampNeg then none else if (iv 56) < 0 ∨ 2000 ≤ (iv 56).toNatClampNeg then none else mX12_newValue_L40 bigF 0 iv (au (au ar 58 (iv 56).toNatClampNeg a1) 59 (iv 56).toNatClampNeg a2)
set_option maxRecDepth 100000 in
set_option maxHeartbeats 4000000 in
theorem kX12_newValue {a1 a2 : Int32} {iv ivz : mI} {ar arz : mA} {rz : Int32} (hm : mX12_newValue a1 a2 iv ar = some (rz, ivz, arz)) : Ct l D cI cJ yX12_newValue cX12_newValue 4 (some .int) 0 0 [.ref o, .int a1, .int a2] (wM cI o ad iv ar) (wM cI o ad ivz arz) rz := by
  intro sz
  refine ct_of (by decide) (Nat.le_of_ble_eq_true rfl) ?_
  intro p e s m args below meth c C hw ls hl
  have hl : lv_has ls 4 [(0, .ref o), (1, .int a1), (2, .int a2)] := hl
  have hx := C.1.1
  have hb := C.1.2.1
  unfold mX12_newValue at hm
  refine lv_aload_n hx hb dX12_newValue_0 rfl (lv_at hl 0 rfl) ?_
  refine g_get C hw gM_56 dX12_newValue_1 ?_
  refine lv_sipush (v := 2000) hx hb dX12_newValue_4 cs_2000 ?_
  refine lv_icmp_ne (tgt := 18) hx hb dX12_newValue_7 (by decide) (fun hc => ?_) (fun hc => ?_)
  · have hm := it_f hc hm
    refine lv_aload_n hx hb dX12_newValue_18 rfl (lv_at hl 0 rfl) ?_
    refine g_get C hw gM_58 dX12_newValue_19 ?_
    refine lv_aload_n hx hb dX12_newValue_22 rfl (lv_at hl 0 rfl) ?_
    refine g_get C hw gM_56 dX12_newValue_23 ?_
    refine lv_iload_n hx hb dX12_newValue_26 rfl (lv_at hl 1 rfl) ?_
    obtain ⟨hi, hm⟩ := it_a hm
    refine g_ast C hw sM_58 hi dX12_newValue_27 (fun H locs hw => ?_)
    refine lv_aload_n hx hb dX12_newValue_28 rfl (lv_at hl 0 rfl) ?_
    refine g_get C hw gM_59 dX12_newValue_29 ?_
    refine lv_aload_n hx hb dX12_newValue_32 rfl (lv_at hl 0 rfl) ?_
    refine g_get C hw gM_56 dX12_newValue_33 ?_
    refine lv_iload_n hx hb dX12_newValue_36 rfl (lv_at hl 2 rfl) ?_
    obtain ⟨hi, hm⟩ := it_a hm
    refine g_ast C hw sM_59 hi dX12_newValue_37 (fun H locs hw => ?_)
    refine lv_iconst (v := 0) hx hb dX12_newValue_38 ci_0 ?_
    refine lv_istore_n (lv' := [(3, .int 0), (0, .ref o), (1, .int a1), (2, .int a2)]) hx hb dX12_newValue_39 rfl hl (by decide) rfl (fun ls hl => ?_)
    exact wX12_newValue_L40 C bigF _ _ _ _ _ _ hm _ _ _ (lv_sub hl [1, 0] rfl) hw
  · have hm := it_t hc hm
    refine lv_aload_n hx hb dX12_newValue_10 rfl (lv_at hl 0 rfl) ?_
    refine lv_bipush (v := (-16)) hx hb dX12_newValue_11 cb_m16 ?_
    refine g_put C hw pM_72 dX12_newValue_13 (fun H locs hw => ?_)
    refine lv_iconst (v := (-1)) hx hb dX12_newValue_16 ci_m1 ?_
    cases hm
    exact g_iret C hw dX12_newValue_17
def mX12_bind (a1 : Int32) (a2 : Int32) (iv : mI) (ar : mA) : Option (Int32 × mI × mA) := if (iv 65) < 0 ∨ 20400 ≤ (iv 65).toNatClampNeg then none else if (iv 65) < 0 ∨ 20400 ≤ (iv 65).toNatClampNeg then none else some ((((va_up iv 65 ((iv 65) + 1)) 65) - 1), va_up iv 65 ((iv 65) + 1), au (au ar 63 (iv 65).toNatClampNeg a1) 64 (iv 65).toNatClampNeg a2)
set_option maxRecDepth 100000 in
set_option maxHeartbeats 4000000 in
theorem kX12_bind {a1 a2 : Int32} {iv ivz : mI} {ar arz : mA} {rz : Int32} (hm : mX12_bind a1 a2 iv ar = some (rz, ivz, arz)) : Ct l D cI cJ yX12_bind cX12_bind 3 (some .int) 0 0 [.ref o, .int a1, .int a2] (wM cI o ad iv ar) (wM cI o ad ivz arz) rz := by
  intro sz
  refine ct_of (by decide) (Nat.le_of_ble_eq_true rfl) ?_
  intro p e s m args below meth c C hw ls hl
  have hl : lv_has ls 3 [(0, .ref o), (1, .int a1), (2, .int a2)] := hl
  have hx := C.1.1
  have hb := C.1.2.1
  unfold mX12_bind at hm
  refine lv_aload_n hx hb dX12_bind_0 rfl (lv_at hl 0 rfl) ?_
  refine g_get C hw gM_63 dX12_bind_1 ?_
  refine lv_aload_n hx hb dX12_bind_4 rfl (lv_at hl 0 rfl) ?_
  refine g_get C hw gM_65 dX12_bind_5 ?_
  refine lv_iload_n hx hb dX12_bind_8 rfl (lv_at hl 1 rfl) ?_
  obtain ⟨hi, hm⟩ := it_a hm
  refine g_ast C hw sM_63 hi dX12_bind_9 (fun H locs hw => ?_)
  refine lv_aload_n hx hb dX12_bind_10 rfl (lv_at hl 0 rfl) ?_
  refine g_get C hw gM_64 dX12_bind_11 ?_
  refine lv_aload_n hx hb dX12_bind_14 rfl (lv_at hl 0 rfl) ?_
  refine g_get C hw gM_65 dX12_bind_15 ?_
  refine lv_iload_n hx hb dX12_bind_18 rfl (lv_at hl 2 rfl) ?_
  obtain ⟨hi, hm⟩ := it_a hm
  refine g_ast C hw sM_64 hi dX12_bind_19 (fun H locs hw => ?_)
  refine lv_aload_n hx hb dX12_bind_20 rfl (lv_at hl 0 rfl) ?_
  refine lv_dup hx hb dX12_bind_21 rfl ?_
  refine g_get C hw gM_65 dX12_bind_22 ?_
  refine lv_iconst (v := 1) hx hb dX12_bind_25 ci_1 ?_
  refine lv_iadd hx hb dX12_bind_26 ?_
  refine g_put C hw pM_65 dX12_bind_27 (fun H locs hw => ?_)
  refine lv_aload_n hx hb dX12_bind_30 rfl (lv_at hl 0 rfl) ?_
  refine g_get C hw gM_65 dX12_bind_31 ?_
  refine lv_iconst (v := 1) hx hb dX12_bind_34 ci_1 ?_
  refine lv_isub hx hb dX12_bind_35 ?_
  cases hm
  exact g_iret C hw dX12_bind_36
def mX12_begin (a1 : Int32) (a2 : Int32) (a3 : Int32) (iv : mI) (ar : mA) : Option (Int32 × mI × mA) := if (iv 71) < 0 ∨ 301 ≤ (iv 71).toNatClampNeg then none else if (iv 71) < 0 ∨ 301 ≤ (iv 71).toNatClampNeg then none else if (iv 71) < 0 ∨ 301 ≤ (iv 71).toNatClampNeg then none else if (iv 71) < 0 ∨ 301 ≤ (iv 71).toNatClampNeg then none else some (0, va_up iv 71 ((iv 71) + 1), au (au (au (au ar 66 (iv 71).toNatClampNeg a1) 67 (iv 71).toNatClampNeg a2) 68 (iv 71).toNatClampNeg 0) 69 (iv 71).toNatClampNeg a3)
set_option maxRecDepth 100000 in
set_option maxHeartbeats 4000000 in
theorem kX12_begin {a1 a2 a3 : Int32} {iv ivz : mI} {ar arz : mA} {rz : Int32} (hm : mX12_begin a1 a2 a3 iv ar = some (rz, ivz, arz)) : CtV l D cI cJ yX12_begin cX12_begin 4 0 0 [.ref o, .int a1, .int a2, .int a3] (wM cI o ad iv ar) (wM cI o ad ivz arz) := by
  intro sz
  refine ct_of (by decide) (Nat.le_of_ble_eq_true rfl) ?_
  intro p e s m args below meth c C hw ls hl
  have hl : lv_has ls 4 [(0, .ref o), (1, .int a1), (2, .int a2), (3, .int a3)] := hl
  have hx := C.1.1
  have hb := C.1.2.1
  unfold mX12_begin at hm
  refine lv_aload_n hx hb dX12_begin_0 rfl (lv_at hl 0 rfl) ?_
  refine g_get C hw gM_66 dX12_begin_1 ?_
  refine lv_aload_n hx hb dX12_begin_4 rfl (lv_at hl 0 rfl) ?_
  refine g_get C hw gM_71 dX12_begin_5 ?_
  refine lv_iload_n hx hb dX12_begin_8 rfl (lv_at hl 1 rfl) ?_
  obtain ⟨hi, hm⟩ := it_a hm
  refine g_ast C hw sM_66 hi dX12_begin_9 (fun H locs hw => ?_)
  refine lv_aload_n hx hb dX12_begin_10 rfl (lv_at hl 0 rfl) ?_
  refine g_get C hw gM_67 dX12_begin_11 ?_
  refine lv_aload_n hx hb dX12_begin_14 rfl (lv_at hl 0 rfl) ?_
  refine g_get C hw gM_71 dX12_begin_15 ?_
  refine lv_iload_n hx hb dX12_begin_18 rfl (lv_at hl 2 rfl) ?_
  obtain ⟨hi, hm⟩ := it_a hm
  refine g_ast C hw sM_67 hi dX12_begin_19 (fun H locs hw => ?_)
  refine lv_aload_n hx hb dX12_begin_20 rfl (lv_at hl 0 rfl) ?_
  refine g_get C hw gM_68 dX12_begin_21 ?_
  refine lv_aload_n hx hb dX12_begin_24 rfl (lv_at hl 0 rfl) ?_
  refine g_get C hw gM_71 dX12_begin_25 ?_
  refine lv_iconst (v := 0) hx hb dX12_begin_28 ci_0 ?_
  obtain ⟨hi, hm⟩ := it_a hm
  refine g_ast C hw sM_68 hi dX12_begin_29 (fun H locs hw => ?_)
  refine lv_aload_n hx hb dX12_begin_30 rfl (lv_at hl 0 rfl) ?_
  refine g_get C hw gM_69 dX12_begin_31 ?_
  refine lv_aload_n hx hb dX12_begin_34 rfl (lv_at hl 0 rfl) ?_
  refine g_get C hw gM_71 dX12_begin_35 ?_
  refine lv_iload_n hx hb dX12_begin_38 rfl (lv_at hl 3 rfl) ?_
  obtain ⟨hi, hm⟩ := it_a hm
  refine g_ast C hw sM_69 hi dX12_begin_39 (fun H locs hw => ?_)
  refine lv_aload_n hx hb dX12_begin_40 rfl (lv_at hl 0 rfl) ?_
  refine lv_dup hx hb dX12_begin_41 rfl ?_
  refine g_get C hw gM_71 dX12_begin_42 ?_
  refine lv_iconst (v := 1) hx hb dX12_begin_45 ci_1 ?_
  refine lv_iadd hx hb dX12_begin_46 ?_
  refine g_put C hw pM_71 dX12_begin_47 (fun H locs hw => ?_)
  cases hm
  exact g_vret C hw dX12_begin_50
def mX12_next (a1 : Int32) (a2 : Int32) (a3 : Int32) (iv : mI) (ar : mA) : Option (Int32 × mI × mA) := some (0, va_up (va_up (va_up iv 73 a1) 74 a2) 75 a3, ar)
set_option maxRecDepth 100000 in
set_option maxHeartbeats 4000000 in
theorem kX12_next {a1 a2 a3 : Int32} {iv ivz : mI} {ar arz : mA} {rz : Int32} (hm : mX12_next a1 a2 a3 iv ar = some (rz, ivz, arz)) : CtV l D cI cJ yX12_next cX12_next 4 0 0 [.ref o, .int a1, .int a2, .int a3] (wM cI o ad iv ar) (wM cI o ad ivz arz) := by
  intro sz
  refine ct_of (by decide) (Nat.le_of_ble_eq_true rfl) ?_
  intro p e s m args below meth c C hw ls hl
  have hl : lv_has ls 4 [(0, .ref o), (1, .int a1), (2, .int a2), (3, .int a3)] := hl
  have hx := C.1.1
  have hb := C.1.2.1
  unfold mX12_next at hm
  refine lv_aload_n hx hb dX12_next_0 rfl (lv_at hl 0 rfl) ?_
  refine lv_iload_n hx hb dX12_next_1 rfl (lv_at hl 1 rfl) ?_
  refine g_put C hw pM_73 dX12_next_2 (fun H locs hw => ?_)
  refine lv_aload_n hx hb dX12_next_5 rfl (lv_at hl 0 rfl) ?_
  refine lv_iload_n hx hb dX12_next_6 rfl (lv_at hl 2 rfl) ?_
  refine g_put C hw pM_74 dX12_next_7 (fun H locs hw => ?_)
  refine lv_aload_n hx hb dX12_next_10 rfl (lv_at hl 0 rfl) ?_
  refine lv_iload_n hx hb dX12_next_11 rfl (lv_at hl 3 rfl) ?_
  refine g_put C hw pM_75 dX12_next_12 (fun H locs hw => ?_)
  cases hm
  exact g_vret C hw dX12_next_15
def mX12_wantsMore_J98 (l1 : Int32) (l2 : Int32) (s0 : Int32) (iv : mI) (ar : mA) : Option (Int32 × mI × mA) := if ((9 * l2) + s0) < 0 ∨ 1800 ≤ ((9 * l2) + s0).toNatClampNeg then none else if l1 < 0 ∨ 301 ≤ l1.toNatClampNeg then none else ob (mX12_next (ar 43 ((9 * l2) + s0).toNatClampNeg) (ar 67 l1.toNatClampNeg) (-1) iv ar) (fun r120 iv120 ar120 => some (1, iv120, ar120))
set_option maxRecDepth 100000 in
set_option maxHeartbeats 4000000 in
theorem wX12_wantsMore_J98 (C : mCx p s m args meth c RX12 cX12_wantsMore 6 (some .boolean) D cI cJ A) : ∀ (l1 : Int32) (l2 : Int32) (s0 : Int32) (iv : mI) (ar : mA) (rz : Int32) (ivz : mI) (arz : mA), mX12_wantsMore_J98 l1 l2 s0 iv ar = some (rz, ivz, arz) → ∀ (H : Heap) (locs : List Loc) (ls : Array Slot), lv_has ls 6 [(0, .ref o), (1, .int l1), (2, .int l2)] → inW D A s (wM cI o ad iv ar) H locs → W p l e (rmO 1 23) s m args below meth c H locs 0 0 (MQ below (ctQ D cI cJ (wM cI o ad ivz arz) A rz) args s 0 0 A) (F0 m 98 ls [.int s0]) := by
  intro l1 l2 s0 iv ar rz ivz arz hm H locs ls hl hw
  have hx := C.1.1
  have hb := C.1.2.1
  unfold mX12_wantsMore_J98 at hm
  refine lv_istore (lv' := [(5, .int s0), (0, .ref o), (1, .int l1), (2, .int l2)]) hx hb dX12_wantsMore_98 hl (by decide) rfl (fun ls hl => ?_)
  refine lv_aload_n hx hb dX12_wantsMore_100 rfl (lv_at hl 1 rfl) ?_
  refine lv_aload_n hx hb dX12_wantsMore_101 rfl (lv_at hl 1 rfl) ?_
  refine g_get C hw gM_43 dX12_wantsMore_102 ?_
  refine lv_bipush (v := 9) hx hb dX12_wantsMore_105 cb_9 ?_
  refine lv_iload_n hx hb dX12_wantsMore_107 rfl (lv_at hl 3 rfl) ?_
  refine lv_imul hx hb dX12_wantsMore_108 ?_
  refine lv_iload hx hb dX12_wantsMore_109 (lv_at hl 0 rfl) ?_
  refine lv_iadd hx hb dX12_wantsMore_111 ?_
  obtain ⟨hi, hm⟩ := it_a hm
  refine g_ald C hw aM_43 hi dX12_wantsMore_112 ?_
  refine lv_aload_n hx hb dX12_wantsMore_113 rfl (lv_at hl 1 rfl) ?_
  refine g_get C hw gM_67 dX12_wantsMore_114 ?_
  refine lv_iload_n hx hb dX12_wantsMore_117 rfl (lv_at hl 2 rfl) ?_
  obtain ⟨hi, hm⟩ := it_a hm
  refine g_ald C hw aM_67 hi dX12_wantsMore_118 ?_
  refine lv_iconst (v := (-1)) hx hb dX12_wantsMore_119 ci_m1 ?_
  obtain ⟨r120, iv120, ar120, hc120, hm⟩ := ob_some hm
  refine g_callv (As := [.int (ar 43 ((9 * l2) + s0).toNatClampNeg), .int (ar 67 l1.toNatClampNeg), .int (-1)]) (rest := []) C hw (kX12_next hc120) mtX12_next lkX12_400 oM hl.1 rfl rfl (Nat.le_of_ble_eq_true rfl) ⟨Nat.le_of_ble_eq_true rfl, Nat.le_of_ble_eq_true rfl⟩ dX12_wantsMore_120 ⟨Nat.zero_le _, Nat.zero_le _⟩ (fun H locs hw => ?_)
  refine lv_iconst (v := 1) hx hb dX12_wantsMore_123 ci_1 ?_
  cases hm
  exact g_zret C hw (Or.inr rfl) dX12_wantsMore_124
def mX12_wantsMore_J65 (l1 : Int32) (l2 : Int32) (l3 : Int32) (s0 : Int32) (iv : mI) (ar : mA) : Option (Int32 × mI × mA) := if l3 < s0 then if l2 < 0 ∨ 200 ≤ l2.toNatClampNeg then none else if (ar 40 l2.toNatClampNeg) = 32 then if l2 < 0 ∨ 200 ≤ l2.toNatClampNeg then none else mX12_wantsMore_J98 l1 l2 ((ar 45 l2.toNatClampNeg) - 1) iv ar else mX12_wantsMore_J98 l1 l2 l3 iv ar else some (0, iv, ar)
set_option maxRecDepth 100000 in
set_option maxHeartbeats 4000000 in
theorem wX12_wantsMore_J65 (C : mCx p s m args meth c RX12 cX12_wantsMore 6 (some .boolean) D cI cJ A) : ∀ (l1 : Int32) (l2 : Int32) (l3 : Int32) (s0 : Int32) (iv : mI) (ar : mA) (rz : Int32) (ivz : mI) (arz : mA), mX12_wantsMore_J65 l1 l2 l3 s0 iv ar = some (rz, ivz, arz) → ∀ (H : Heap) (locs : List Loc) (ls : Array Slot), lv_has ls 6 [(0, .ref o), (1, .int l1), (2, .int l2), (3, .int l3)] → inW D A s (wM cI o ad iv ar) H locs → W p l e (rmO 1 23) s m args below meth c H locs 0 0 (MQ below (ctQ D cI cJ (wM cI o ad ivz arz) A rz) args s 0 0 A) (F0 m 65 ls [.int s0]) := by
  intro l1 l2 l3 s0 iv ar rz ivz arz hm H locs ls hl hw
  have hx := C.1.1
  have hb := C.1.2.1
  unfold mX12_wantsMore_J65 at hm
  refine lv_istore (lv' := [(4, .int s0), (0, .ref o), (1, .int l1), (2, .int l2), (3, .int l3)]) hx hb dX12_wantsMore_65 hl (by decide) rfl (fun ls hl => ?_)
  refine lv_iload_n hx hb dX12_wantsMore_67 rfl (lv_at hl 4 rfl) ?_
  refine lv_iload hx hb dX12_wantsMore_68 (lv_at hl 0 rfl) ?_
  refine lv_icmp_lt (tgt := 75) hx hb dX12_wantsMore_70 (by decide) (fun hc => ?_) (fun hc => ?_)
  · have hm := it_t hc hm
    refine lv_aload_n hx hb dX12_wantsMore_75 rfl (lv_at hl 1 rfl) ?_
    refine g_get C hw gM_40 dX12_wantsMore_76 ?_
    refine lv_iload_n hx hb dX12_wantsMore_79 rfl (lv_at hl 3 rfl) ?_
    obtain ⟨hi, hm⟩ := it_a hm
    refine g_ald C hw aM_40 hi dX12_wantsMore_80 ?_
    refine lv_bipush (v := 32) hx hb dX12_wantsMore_81 cb_32 ?_
    refine lv_icmp_ne (tgt := 97) hx hb dX12_wantsMore_83 (by decide) (fun hc => ?_) (fun hc => ?_)
    · have hm := it_f hc hm
      refine lv_iload_n hx hb dX12_wantsMore_97 rfl (lv_at hl 4 rfl) ?_
      exact wX12_wantsMore_J98 C _ _ _ _ _ _ _ _ hm _ _ _ (lv_sub hl [1, 2, 3] rfl) hw
    · have hm := it_t hc hm
      refine lv_aload_n hx hb dX12_wantsMore_86 rfl (lv_at hl 1 rfl) ?_
      refine g_get C hw gM_45 dX12_wantsMore_87 ?_
      refine lv_iload_n hx hb dX12_wantsMore_90 rfl (lv_at hl 3 rfl) ?_
      obtain ⟨hi, hm⟩ := it_a hm
      refine g_ald C hw aM_45 hi dX12_wantsMore_91 ?_
      refine lv_iconst (v := 1) hx hb dX12_wantsMore_92 ci_1 ?_
      refine lv_isub hx hb dX12_wantsMore_93 ?_
      refine lv_goto (tgt := 98) hx hb dX12_wantsMore_94 (by decide) ?_
      exact wX12_wantsMore_J98 C _ _ _ _ _ _ _ _ hm _ _ _ (lv_sub hl [1, 2, 3] rfl) hw
  · have hm := it_f hc hm
    refine lv_iconst (v := 0) hx hb dX12_wantsMore_73 ci_0 ?_
    cases hm
    exact g_zret C hw (Or.inl rfl) dX12_wantsMore_74
def mX12_wantsMore (a1 : Int32) (a2 : Int32) (iv : mI) (ar : mA) : Option (Int32 × mI × mA) := if a1 < 0 ∨ 301 ≤ a1.toNatClampNeg then none else if a2 < 0 ∨ 200 ≤ a2.toNatClampNeg then none else if (ar 40 a2.toNatClampNeg) = 28 then mX12_wantsMore_J65 a1 a2 (ar 68 a1.toNatClampNeg) 1 iv ar else if a2 < 0 ∨ 200 ≤ a2.toNatClampNeg then none else if (ar 40 a2.toNatClampNeg) = 32 then mX12_wantsMore_J65 a1 a2 (ar 68 a1.toNatClampNeg) 1 iv ar else if a2 < 0 ∨ 200 ≤ a2.toNatClampNeg then none else if (ar 40 a2.toNatClampNeg) = 21 then mX12_wantsMore_J65 a1 a2 (ar 68 a1.toNatClampNeg) 0 iv ar else if a2 < 0 ∨ 200 ≤ a2.toNatClampNeg then none else if (ar 40 a2.toNatClampNeg) = 33 then mX12_wantsMore_J65 a1 a2 (ar 68 a1.toNatClampNeg) 0 iv ar else if a2 < 0 ∨ 200 ≤ a2.toNatClampNeg then none else mX12_wantsMore_J65 a1 a2 (ar 68 a1.toNatClampNeg) (ar 45 a2.toNatClampNeg) iv ar
set_option maxRecDepth 100000 in
set_option maxHeartbeats 4000000 in
theorem kX12_wantsMore {a1 a2 : Int32} {iv ivz : mI} {ar arz : mA} {rz : Int32} (hm : mX12_wantsMore a1 a2 iv ar = some (rz, ivz, arz)) : Ct l D cI cJ yX12_wantsMore cX12_wantsMore 6 (some .boolean) 1 23 [.ref o, .int a1, .int a2] (wM cI o ad iv ar) (wM cI o ad ivz arz) rz := by
  intro sz
  refine ct_of (by decide) (Nat.le_of_ble_eq_true rfl) ?_
  intro p e s m args below meth c C hw ls hl
  have hl : lv_has ls 6 [(0, .ref o), (1, .int a1), (2, .int a2)] := hl
  have hx := C.1.1
  have hb := C.1.2.1
  unfold mX12_wantsMore at hm
  refine lv_aload_n hx hb dX12_wantsMore_0 rfl (lv_at hl 0 rfl) ?_
  refine g_get C hw gM_68 dX12_wantsMore_1 ?_
  refine lv_iload_n hx hb dX12_wantsMore_4 rfl (lv_at hl 1 rfl) ?_
  obtain ⟨hi, hm⟩ := it_a hm
  refine g_ald C hw aM_68 hi dX12_wantsMore_5 ?_
  refine lv_istore_n (lv' := [(3, .int (ar 68 a1.toNatClampNeg)), (0, .ref o), (1, .int a1), (2, .int a2)]) hx hb dX12_wantsMore_6 rfl hl (by decide) rfl (fun ls hl => ?_)
  refine lv_aload_n hx hb dX12_wantsMore_7 rfl (lv_at hl 1 rfl) ?_
  refine g_get C hw gM_40 dX12_wantsMore_8 ?_
  refine lv_iload_n hx hb dX12_wantsMore_11 rfl (lv_at hl 3 rfl) ?_
  obtain ⟨hi, hm⟩ := it_a hm
  refine g_ald C hw aM_40 hi dX12_wantsMore_12 ?_
  refine lv_bipush (v := 28) hx hb dX12_wantsMore_13 cb_28 ?_
  refine lv_icmp_eq (tgt := 29) hx hb dX12_wantsMore_15 (by decide) (fun hc => ?_) (fun hc => ?_)
  · have hm := it_t hc hm
    refine lv_iconst (v := 1) hx hb dX12_wantsMore_29 ci_1 ?_
    refine lv_goto (tgt := 65) hx hb dX12_wantsMore_30 (by decide) ?_
    exact wX12_wantsMore_J65 C _ _ _ _ _ _ _ _ _ hm _ _ _ (lv_sub hl [1, 2, 3, 0] rfl) hw
  · have hm := it_f hc hm
    refine lv_aload_n hx hb dX12_wantsMore_18 rfl (lv_at hl 1 rfl) ?_
    refine g_get C hw gM_40 dX12_wantsMore_19 ?_
    refine lv_iload_n hx hb dX12_wantsMore_22 rfl (lv_at hl 3 rfl) ?_
    obtain ⟨hi, hm⟩ := it_a hm
    refine g_ald C hw aM_40 hi dX12_wantsMore_23 ?_
    refine lv_bipush (v := 32) hx hb dX12_wantsMore_24 cb_32 ?_
    refine lv_icmp_ne (tgt := 33) hx hb dX12_wantsMore_26 (by decide) (fun hc => ?_) (fun hc => ?_)
    · have hm := it_f hc hm
      refine lv_aload_n hx hb dX12_wantsMore_33 rfl (lv_at hl 1 rfl) ?_
      refine g_get C hw gM_40 dX12_wantsMore_34 ?_
      refine lv_iload_n hx hb dX12_wantsMore_37 rfl (lv_at hl 3 rfl) ?_
      obtain ⟨hi, hm⟩ := it_a hm
      refine g_ald C hw aM_40 hi dX12_wantsMore_38 ?_
      refine lv_bipush (v := 21) hx hb dX12_wantsMore_39 cb_21 ?_
      refine lv_icmp_eq (tgt := 55) hx hb dX12_wantsMore_41 (by decide) (fun hc => ?_) (fun hc => ?_)
      · have hm := it_t hc hm
        refine lv_iconst (v := 0) hx hb dX12_wantsMore_55 ci_0 ?_
        refine lv_goto (tgt := 65) hx hb dX12_wantsMore_56 (by decide) ?_
        exact wX12_wantsMore_J65 C _ _ _ _ _ _ _ _ _ hm _ _ _ (lv_sub hl [1, 2, 3, 0] rfl) hw
      · have hm := it_f hc hm
        refine lv_aload_n hx hb dX12_wantsMore_44 rfl (lv_at hl 1 rfl) ?_
        refine g_get C hw gM_40 dX12_wantsMore_45 ?_
        refine lv_iload_n hx hb dX12_wantsMore_48 rfl (lv_at hl 3 rfl) ?_
        obtain ⟨hi, hm⟩ := it_a hm
        refine g_ald C hw aM_40 hi dX12_wantsMore_49 ?_
        refine lv_bipush (v := 33) hx hb dX12_wantsMore_50 cb_33 ?_
        refine lv_icmp_ne (tgt := 59) hx hb dX12_wantsMore_52 (by decide) (fun hc => ?_) (fun hc => ?_)
        · have hm := it_f hc hm
          refine lv_aload_n hx hb dX12_wantsMore_59 rfl (lv_at hl 1 rfl) ?_
          refine g_get C hw gM_45 dX12_wantsMore_60 ?_
          refine lv_iload_n hx hb dX12_wantsMore_63 rfl (lv_at hl 3 rfl) ?_
          obtain ⟨hi, hm⟩ := it_a hm
          refine g_ald C hw aM_45 hi dX12_wantsMore_64 ?_
          exact wX12_wantsMore_J65 C _ _ _ _ _ _ _ _ _ hm _ _ _ (lv_sub hl [1, 2, 3, 0] rfl) hw
        · have hm := it_t hc hm
          refine lv_iconst (v := 0) hx hb dX12_wantsMore_55 ci_0 ?_
          refine lv_goto (tgt := 65) hx hb dX12_wantsMore_56 (by decide) ?_
          exact wX12_wantsMore_J65 C _ _ _ _ _ _ _ _ _ hm _ _ _ (lv_sub hl [1, 2, 3, 0] rfl) hw
    · have hm := it_t hc hm
      refine lv_iconst (v := 1) hx hb dX12_wantsMore_29 ci_1 ?_
      refine lv_goto (tgt := 65) hx hb dX12_wantsMore_30 (by decide) ?_
      exact wX12_wantsMore_J65 C _ _ _ _ _ _ _ _ _ hm _ _ _ (lv_sub hl [1, 2, 3, 0] rfl) hw
def mX12_finishMore_L187 : Nat → Int32 → Int32 → Int32 → Int32 → mI → mA → Option (Int32 × mI × mA)
  | 0, _, _, _, _, _, _ => none
  | n + 1, l2, l3, l4, l5, iv, ar => if ((9 * l2) + l5) < 0 ∨ 1800 ≤ ((9 * l2) + l5).toNatClampNeg then none else if l4 < 0 ∨ 2000 ≤ l4.toNatClampNeg then none else if (ar 44 ((9 * l2) + l5).toNatClampNeg) = (ar 59 l4.toNatClampNeg) then if ((9 * l2) + l5) < 0 ∨ 1800 ≤ ((9 * l2) + l5).toNatClampNeg then none else if l4 < 0 ∨ 2000 ≤ l4.toNatClampNeg then none else if ((8 * l4) + (ar 59 l4.toNatClampNeg)) < 0 ∨ 16000 ≤ ((8 * l4) + (ar 59 l4.toNatClampNeg)).toNatClampNeg then none else ob (mX12_bind (ar 60 ((8 * l4) + (ar 59 l4.toNatClampNeg)).toNatClampNeg) l3 iv ar) (fun r248 iv248 ar248 => ob (mX12_next (ar 43 ((9 * l2) + l5).toNatClampNeg) r248 (-1) iv248 ar248) (fun r252 iv252 ar252 => some ((-1), iv252, ar252))) else mX12_finishMore_L187 n l2 l3 l4 (l5 + 1) iv ar
set_option maxRecDepth 100000 in
set_option maxHeartbeats 4000000 in
theorem wX12_finishMore_L187 (C : mCx p s m args meth c RX12 cX12_finishMore 8 (some .int) D cI cJ A) (n : Nat) : ∀ (l2 : Int32) (l3 : Int32) (l4 : Int32) (l5 : Int32) (iv : mI) (ar : mA) (rz : Int32) (ivz : mI) (arz : mA), mX12_finishMore_L187 n l2 l3 l4 l5 iv ar = some (rz, ivz, arz) → ∀ (H : Heap) (locs : List Loc) (ls : Array Slot), lv_has ls 8 [(0, .ref o), (2, .int l2), (3, .int l3), (4, .int l4), (5, .int l5)] → inW D A s (wM cI o ad iv ar) H locs → W p l e (rmO 1 23) s m args below meth c H locs 0 0 (MQ below (ctQ D cI cJ (wM cI o ad ivz arz) A rz) args s 0 0 A) (F0 m 187 ls []) := by
  induction n with
  | zero =>
    intro l2 l3 l4 l5 iv ar rz ivz arz hm H locs ls hl hw
    have hm : (none : Option (Int32 × mI × mA)) = some _ := hm
    cases hm
  | succ n ih =>
    intro l2 l3 l4 l5 iv ar rz ivz arz hm H locs ls hl hw
    have hx := C.1.1
    have hb := C.1.2.1
    unfold mX12_finishMore_L187 at hm
    refine lv_aload_n hx hb dX12_finishMore_187 rfl (lv_at hl 0 rfl) ?_
    refine g_get C hw gM_44 dX12_finishMore_188 ?_
    refine lv_bipush (v := 9) hx hb dX12_finishMore_191 cb_9 ?_
    refine lv_iload_n hx hb dX12_finishMore_193 rfl (lv_at hl 1 rfl) ?_
    refine lv_imul hx hb dX12_finishMore_194 ?_
    refine lv_iload hx hb dX12_finishMore_195 (lv_at hl 4 rfl) ?_
    refine lv_iadd hx hb dX12_finishMore_197 ?_
    obtain ⟨hi, hm⟩ := it_a hm
    refine g_ald C hw aM_44 hi dX12_finishMore_198 ?_
    refine lv_aload_n hx hb dX12_finishMore_199 rfl (lv_at hl 0 rfl) ?_
    refine g_get C hw gM_59 dX12_finishMore_200 ?_
    refine lv_iload hx hb dX12_finishMore_203 (lv_at hl 3 rfl) ?_
    obtain ⟨hi, hm⟩ := it_a hm
    refine g_ald C hw aM_59 hi dX12_finishMore_205 ?_
    refine lv_icmp_eq (tgt := 215) hx hb dX12_finishMore_206 (by decide) (fun hc => ?_) (fun hc => ?_)
    · have hm := it_t hc hm
      refine lv_aload_n hx hb dX12_finishMore_215 rfl (lv_at hl 0 rfl) ?_
      refine lv_aload_n hx hb dX12_finishMore_216 rfl (lv_at hl 0 rfl) ?_
      refine g_get C hw gM_43 dX12_finishMore_217 ?_
      refine lv_bipush (v := 9) hx hb dX12_finishMore_220 cb_9 ?_
      refine lv_iload_n hx hb dX12_finishMore_222 rfl (lv_at hl 1 rfl) ?_
      refine lv_imul hx hb dX12_finishMore_223 ?_
      refine lv_iload hx hb dX12_finishMore_224 (lv_at hl 4 rfl) ?_
      refine lv_iadd hx hb dX12_finishMore_226 ?_
      obtain ⟨hi, hm⟩ := it_a hm
      refine g_ald C hw aM_43 hi dX12_finishMore_227 ?_
      refine lv_aload_n hx hb dX12_finishMore_228 rfl (lv_at hl 0 rfl) ?_
      refine lv_aload_n hx hb dX12_finishMore_229 rfl (lv_at hl 0 rfl) ?_
      refine g_get C hw gM_60 dX12_finishMore_230 ?_
      refine lv_bipush (v := 8) hx hb dX12_finishMore_233 cb_8 ?_
      refine lv_iload hx hb dX12_finishMore_235 (lv_at hl 3 rfl) ?_
      refine lv_imul hx hb dX12_finishMore_237 ?_
      refine lv_aload_n hx hb dX12_finishMore_238 rfl (lv_at hl 0 rfl) ?_
      refine g_get C hw gM_59 dX12_finishMore_239 ?_
      refine lv_iload hx hb dX12_finishMore_242 (lv_at hl 3 rfl) ?_
      obtain ⟨hi, hm⟩ := it_a hm
      refine g_ald C hw aM_59 hi dX12_finishMore_244 ?_
      refine lv_iadd hx hb dX12_finishMore_245 ?_
      obtain ⟨hi, hm⟩ := it_a hm
      refine g_ald C hw aM_60 hi dX12_finishMore_246 ?_
      refine lv_iload_n hx hb dX12_finishMore_247 rfl (lv_at hl 2 rfl) ?_
      obtain ⟨r248, iv248, ar248, hc248, hm⟩ := ob_some hm
      refine g_calli (As := [.int (ar 60 ((8 * l4) + (ar 59 l4.toNatClampNeg)).toNatClampNeg), .int l3]) (rest := [.int (ar 43 ((9 * l2) + l5).toNatClampNeg), .ref o]) C hw (kX12_bind hc248) mtX12_bind lkX12_406 oM hl.1 rfl rfl (Nat.le_of_ble_eq_true rfl) ⟨Nat.le_of_ble_eq_true rfl, Nat.le_of_ble_eq_true rfl⟩ dX12_finishMore_248 ⟨Nat.zero_le _, Nat.zero_le _⟩ (fun H locs hw => ?_)
      refine lv_iconst (v := (-1)) hx hb dX12_finishMore_251 ci_m1 ?_
      obtain ⟨r252, iv252, ar252, hc252, hm⟩ := ob_some hm
      refine g_callv (As := [.int (ar 43 ((9 * l2) + l5).toNatClampNeg), .int r248, .int (-1)]) (rest := []) C hw (kX12_next hc252) mtX12_next lkX12_400 oM hl.1 rfl rfl (Nat.le_of_ble_eq_true rfl) ⟨Nat.le_of_ble_eq_true rfl, Nat.le_of_ble_eq_true rfl⟩ dX12_finishMore_252 ⟨Nat.zero_le _, Nat.zero_le _⟩ (fun H locs hw => ?_)
      refine lv_iconst (v := (-1)) hx hb dX12_finishMore_255 ci_m1 ?_
      cases hm
      exact g_iret C hw dX12_finishMore_256
    · have hm := it_f hc hm
      refine lv_iinc (v := (l5 + 1)) (lv' := [(5, .int (l5 + 1)), (0, .ref o), (2, .int l2), (3, .int l3), (4, .int l4)]) hx hb dX12_finishMore_209 hl (k := 4) rfl (ii_ ci_1) (by decide) rfl (fun ls hl => ?_)
      refine lv_goto (tgt := 187) hx hb dX12_finishMore_212 (by decide) ?_
      exact ih _ _ _ _ _ _ _ _ _ hm _ _ _ (lv_sub hl [1, 2, 3, 4, 0] rfl) hw
def mX12_finishMore_L47 : Nat → Int32 → Int32 → Int32 → Int32 → mI → mA → Option (Int32 × mI × mA)
  | 0, _, _, _, _, _, _ => none
  | n + 1, l1, l2, l5, l6, iv, ar => if l2 < 0 ∨ 200 ≤ l2.toNatClampNeg then none else if (ar 45 l2.toNatClampNeg) ≤ l6 then some (l5, iv, ar) else if l5 < 0 then some (l5, iv, ar) else if ((9 * l2) + l6) < 0 ∨ 1800 ≤ ((9 * l2) + l6).toNatClampNeg then none else if l5 < 0 ∨ 2000 ≤ l5.toNatClampNeg then none else if l5 < 0 ∨ 2000 ≤ l5.toNatClampNeg then none else if ((9 * l1) + l6) < 0 ∨ 2709 ≤ ((9 * l1) + l6).toNatClampNeg then none else if ((8 * l5) + (ar 44 ((9 * l2) + l6).toNatClampNeg)) < 0 ∨ 16000 ≤ ((8 * l5) + (ar 44 ((9 * l2) + l6).toNatClampNeg)).toNatClampNeg then none else mX12_finishMore_L47 n l1 l2 l5 (l6 + 1) iv (au (au ar 59 l5.toNatClampNeg ((ar 59 l5.toNatClampNeg) ||| (1 <<< ((ar 44 ((9 * l2) + l6).toNatClampNeg) &&& 31)))) 60 ((8 * l5) + (ar 44 ((9 * l2) + l6).toNatClampNeg)).toNatClampNeg ((au ar 59 l5.toNatClampNeg ((ar 59 l5.toNatClampNeg) ||| (1 <<< ((ar 44 ((9 * l2) + l6).toNatClampNeg) &&& 31)))) 70 ((9 * l1) + l6).toNatClampNeg))
set_option maxRecDepth 100000 in
set_option maxHeartbeats 4000000 in
theorem wX12_finishMore_L47 (C : mCx p s m args meth c RX12 cX12_finishMore 8 (some .int) D cI cJ A) (n : Nat) : ∀ (l1 : Int32) (l2 : Int32) (l5 : Int32) (l6 : Int32) (iv : mI) (ar : mA) (rz : Int32) (ivz : mI) (arz : mA), mX12_finishMore_L47 n l1 l2 l5 l6 iv ar = some (rz, ivz, arz) → ∀ (H : Heap) (locs : List Loc) (ls : Array Slot), lv_has ls 8 [(0, .ref o), (1, .int l1), (2, .int l2), (5, .int l5), (6, .int l6)] → inW D A s (wM cI o ad iv ar) H locs → W p l e (rmO 1 23) s m args below meth c H locs 0 0 (MQ below (ctQ D cI cJ (wM cI o ad ivz arz) A rz) args s 0 0 A) (F0 m 47 ls []) := by
  induction n with
  | zero =>
    intro l1 l2 l5 l6 iv ar rz ivz arz hm H locs ls hl hw
    have hm : (none : Option (Int32 × mI × mA)) = some _ := hm
    cases hm
  | succ n ih =>
    intro l1 l2 l5 l6 iv ar rz ivz arz hm H locs ls hl hw
    have hx := C.1.1
    have hb := C.1.2.1
    unfold mX12_finishMore_L47 at hm
    refine lv_iload hx hb dX12_finishMore_47 (lv_at hl 4 rfl) ?_
    refine lv_aload_n hx hb dX12_finishMore_49 rfl (lv_at hl 0 rfl) ?_
    refine g_get C hw gM_45 dX12_finishMore_50 ?_
    refine lv_iload_n hx hb dX12_finishMore_53 rfl (lv_at hl 2 rfl) ?_
    obtain ⟨hi, hm⟩ := it_a hm
    refine g_ald C hw aM_45 hi dX12_finishMore_54 ?_
    refine lv_icmp_ge (tgt := 122) hx hb dX12_finishMore_55 (by decide) (fun hc => ?_) (fun hc => ?_)
    · have hm := it_t hc hm
      refine lv_iload hx hb dX12_finishMore_122 (lv_at hl 3 rfl) ?_
      cases hm
      exact g_iret C hw dX12_finishMore_124
    · have hm := it_f hc hm
      refine lv_iload hx hb dX12_finishMore_58 (lv_at hl 3 rfl) ?_
      refine lv_if_lt (tgt := 122) hx hb dX12_finishMore_60 (by decide) (fun hc => ?_) (fun hc => ?_)
      · have hm := it_t hc hm
        refine lv_iload hx hb dX12_finishMore_122 (lv_at hl 3 rfl) ?_
        cases hm
        exact g_iret C hw dX12_finishMore_124
      · have hm := it_f hc hm
        refine lv_aload_n hx hb dX12_finishMore_63 rfl (lv_at hl 0 rfl) ?_
        refine g_get C hw gM_44 dX12_finishMore_64 ?_
        refine lv_bipush (v := 9) hx hb dX12_finishMore_67 cb_9 ?_
        refine lv_iload_n hx hb dX12_finishMore_69 rfl (lv_at hl 2 rfl) ?_
        refine lv_imul hx hb dX12_finishMore_70 ?_
        refine lv_iload hx hb dX12_finishMore_71 (lv_at hl 4 rfl) ?_
        refine lv_iadd hx hb dX12_finishMore_73 ?_
        obtain ⟨hi, hm⟩ := it_a hm
        refine g_ald C hw aM_44 hi dX12_finishMore_74 ?_
        refine lv_istore (lv' := [(7, .int (ar 44 ((9 * l2) + l6).toNatClampNeg)), (0, .ref o), (1, .int l1), (2, .int l2), (5, .int l5), (6, .int l6)]) hx hb dX12_finishMore_75 hl (by decide) rfl (fun ls hl => ?_)
        refine lv_aload_n hx hb dX12_finishMore_77 rfl (lv_at hl 1 rfl) ?_
        refine g_get C hw gM_59 dX12_finishMore_78 ?_
        refine lv_iload hx hb dX12_finishMore_81 (lv_at hl 4 rfl) ?_
        refine lv_dup2_11 hx hb dX12_finishMore_83 rfl rfl ?_
        obtain ⟨hi, hm⟩ := it_a hm
        refine g_ald C hw aM_59 hi dX12_finishMore_84 ?_
        refine lv_iconst (v := 1) hx hb dX12_finishMore_85 ci_1 ?_
        refine lv_iload hx hb dX12_finishMore_86 (lv_at hl 0 rfl) ?_
        refine lv_ishl hx hb dX12_finishMore_88 ?_
        refine lv_ior hx hb dX12_finishMore_89 ?_
        obtain ⟨hi, hm⟩ := it_a hm
        refine g_ast C hw sM_59 hi dX12_finishMore_90 (fun H locs hw => ?_)
        refine lv_aload_n hx hb dX12_finishMore_91 rfl (lv_at hl 1 rfl) ?_
        refine g_get C hw gM_60 dX12_finishMore_92 ?_
        refine lv_bipush (v := 8) hx hb dX12_finishMore_95 cb_8 ?_
        refine lv_iload hx hb dX12_finishMore_97 (lv_at hl 4 rfl) ?_
        refine lv_imul hx hb dX12_finishMore_99 ?_
        refine lv_iload hx hb dX12_finishMore_100 (lv_at hl 0 rfl) ?_
        refine lv_iadd hx hb dX12_finishMore_102 ?_
        refine lv_aload_n hx hb dX12_finishMore_103 rfl (lv_at hl 1 rfl) ?_
        refine g_get C hw gM_70 dX12_finishMore_104 ?_
        refine lv_bipush (v := 9) hx hb dX12_finishMore_107 cb_9 ?_
        refine lv_iload_n hx hb dX12_finishMore_109 rfl (lv_at hl 2 rfl) ?_
        refine lv_imul hx hb dX12_finishMore_110 ?_
        refine lv_iload hx hb dX12_finishMore_111 (lv_at hl 5 rfl) ?_
        refine lv_iadd hx hb dX12_finishMore_113 ?_
        obtain ⟨hi, hm⟩ := it_a hm
        refine g_ald C hw aM_70 hi dX12_finishMore_114 ?_
        obtain ⟨hi, hm⟩ := it_a hm
        refine g_ast C hw sM_60 hi dX12_finishMore_115 (fun H locs hw => ?_)
        refine lv_iinc (v := (l6 + 1)) (lv' := [(6, .int (l6 + 1)), (7, .int (ar 44 ((9 * l2) + l6).toNatClampNeg)), (0, .ref o), (1, .int l1), (2, .int l2), (5, .int l5)]) hx hb dX12_finishMore_116 hl (k := 5) rfl (ii_ ci_1) (by decide) rfl (fun ls hl => ?_)
        refine lv_goto (tgt := 47) hx hb dX12_finishMore_119 (by decide) ?_
        exact ih _ _ _ _ _ _ _ _ _ hm _ _ _ (lv_sub hl [2, 3, 4, 5, 0] rfl) hw
def mX12_finishMore (a1 : Int32) (a2 : Int32) (a3 : Int32) (a4 : Int32) (iv : mI) (ar : mA) : Option (Int32 × mI × mA) := if a2 < 0 ∨ 200 ≤ a2.toNatClampNeg then none else if (ar 40 a2.toNatClampNeg) = 29 then ob (mX12_newValue 5 0 iv ar) (fun r39 iv39 ar39 => mX12_finishMore_L47 bigF a1 a2 r39 0 iv39 ar39) else if (ar 40 a2.toNatClampNeg) = 30 then if a2 < 0 ∨ 200 ≤ a2.toNatClampNeg then none else if ((8 * a4) + (ar 42 a2.toNatClampNeg)) < 0 ∨ 16000 ≤ ((8 * a4) + (ar 42 a2.toNatClampNeg)).toNatClampNeg then none else some ((ar 60 ((8 * a4) + (ar 42 a2.toNatClampNeg)).toNatClampNeg), iv, ar) else if (ar 40 a2.toNatClampNeg) = 31 then if a2 < 0 ∨ 200 ≤ a2.toNatClampNeg then none else ob (mX12_newValue 6 (ar 42 a2.toNatClampNeg) iv ar) (fun r152 iv152 ar152 => if r152 < 0 then some (r152, iv152, ar152) else if a2 < 0 ∨ 200 ≤ a2.toNatClampNeg then none else if ((8 * r152) + (ar152 42 a2.toNatClampNeg)) < 0 ∨ 16000 ≤ ((8 * r152) + (ar152 42 a2.toNatClampNeg)).toNatClampNeg then none else some (r152, iv152, au ar152 60 ((8 * r152) + (ar152 42 a2.toNatClampNeg)).toNatClampNeg a4)) else if (ar 40 a2.toNatClampNeg) = 32 then mX12_finishMore_L187 bigF a2 a3 a4 0 iv ar else ob (mX12_newValue 4 0 iv ar) (fun r260 iv260 ar260 => if r260 < 0 then some ((-1), iv260, ar260) else if (9 * a2) < 0 ∨ 1800 ≤ (9 * a2).toNatClampNeg then none else ob (mX12_bind r260 a3 iv260 ar260) (fun r284 iv284 ar284 => ob (mX12_next (ar260 43 (9 * a2).toNatClampNeg) r284 r260 iv284 ar284) (fun r289 iv289 ar289 => some ((-1), iv289, ar289))))
set_option maxRecDepth 100000 in
set_option maxHeartbeats 4000000 in
theorem kX12_finishMore {a1 a2 a3 a4 : Int32} {iv ivz : mI} {ar arz : mA} {rz : Int32} (hm : mX12_finishMore a1 a2 a3 a4 iv ar = some (rz, ivz, arz)) : Ct l D cI cJ yX12_finishMore cX12_finishMore 8 (some .int) 1 23 [.ref o, .int a1, .int a2, .int a3, .int a4] (wM cI o ad iv ar) (wM cI o ad ivz arz) rz := by
  intro sz
  refine ct_of (by decide) (Nat.le_of_ble_eq_true rfl) ?_
  intro p e s m args below meth c C hw ls hl
  have hl : lv_has ls 8 [(0, .ref o), (1, .int a1), (2, .int a2), (3, .int a3), (4, .int a4)] := hl
  have hx := C.1.1
  have hb := C.1.2.1
  unfold mX12_finishMore at hm
  refine lv_aload_n hx hb dX12_finishMore_0 rfl (lv_at hl 0 rfl) ?_
  refine g_get C hw gM_40 dX12_finishMore_1 ?_
  refine lv_iload_n hx hb dX12_finishMore_4 rfl (lv_at hl 2 rfl) ?_
  obtain ⟨hi, hm⟩ := it_a hm
  refine g_ald C hw aM_40 hi dX12_finishMore_5 ?_
  refine br_by (c := (ar 40 a2.toNatClampNeg) = 29) (fun hc => ?_) (fun hc29 => ?_)
  · have hm := it_t hc hm
    refine lv_tableIn (off := 30) (tgt := 36) hx hb dX12_finishMore_6 (by rw [hc]; decide) (by rw [hc]; decide) (by rw [hc]; rfl) (by decide) ?_
    refine lv_aload_n hx hb dX12_finishMore_36 rfl (lv_at hl 0 rfl) ?_
    refine lv_iconst (v := 5) hx hb dX12_finishMore_37 ci_5 ?_
    refine lv_iconst (v := 0) hx hb dX12_finishMore_38 ci_0 ?_
    obtain ⟨r39, iv39, ar39, hc39, hm⟩ := ob_some hm
    refine g_calli (As := [.int 5, .int 0]) (rest := []) C hw (kX12_newValue hc39) mtX12_newValue lkX12_403 oM hl.1 rfl rfl (Nat.le_of_ble_eq_true rfl) ⟨Nat.le_of_ble_eq_true rfl, Nat.le_of_ble_eq_true rfl⟩ dX12_finishMore_39 ⟨Nat.zero_le _, Nat.zero_le _⟩ (fun H locs hw => ?_)
    refine lv_istore (lv' := [(5, .int r39), (0, .ref o), (1, .int a1), (2, .int a2), (3, .int a3), (4, .int a4)]) hx hb dX12_finishMore_42 hl (by decide) rfl (fun ls hl => ?_)
    refine lv_iconst (v := 0) hx hb dX12_finishMore_44 ci_0 ?_
    refine lv_istore (lv' := [(6, .int 0), (5, .int r39), (0, .ref o), (1, .int a1), (2, .int a2), (3, .int a3), (4, .int a4)]) hx hb dX12_finishMore_45 hl (by decide) rfl (fun ls hl => ?_)
    exact wX12_finishMore_L47 C bigF _ _ _ _ _ _ _ _ _ hm _ _ _ (lv_sub hl [2, 3, 4, 1, 0] rfl) hw
  · have hm := it_f hc29 hm
    refine br_by (c := (ar 40 a2.toNatClampNeg) = 30) (fun hc => ?_) (fun hc30 => ?_)
    · have hm := it_t hc hm
      refine lv_tableIn (off := 119) (tgt := 125) hx hb dX12_finishMore_6 (by rw [hc]; decide) (by rw [hc]; decide) (by rw [hc]; rfl) (by decide) ?_
      refine lv_aload_n hx hb dX12_finishMore_125 rfl (lv_at hl 0 rfl) ?_
      refine g_get C hw gM_60 dX12_finishMore_126 ?_
      refine lv_bipush (v := 8) hx hb dX12_finishMore_129 cb_8 ?_
      refine lv_iload hx hb dX12_finishMore_131 (lv_at hl 4 rfl) ?_
      refine lv_imul hx hb dX12_finishMore_133 ?_
      refine lv_aload_n hx hb dX12_finishMore_134 rfl (lv_at hl 0 rfl) ?_
      refine g_get C hw gM_42 dX12_finishMore_135 ?_
      refine lv_iload_n hx hb dX12_finishMore_138 rfl (lv_at hl 2 rfl) ?_
      obtain ⟨hi, hm⟩ := it_a hm
      refine g_ald C hw aM_42 hi dX12_finishMore_139 ?_
      refine lv_iadd hx hb dX12_finishMore_140 ?_
      obtain ⟨hi, hm⟩ := it_a hm
      refine g_ald C hw aM_60 hi dX12_finishMore_141 ?_
      cases hm
      exact g_iret C hw dX12_finishMore_142
    · have hm := it_f hc30 hm
      refine br_by (c := (ar 40 a2.toNatClampNeg) = 31) (fun hc => ?_) (fun hc31 => ?_)
      · have hm := it_t hc hm
        refine lv_tableIn (off := 137) (tgt := 143) hx hb dX12_finishMore_6 (by rw [hc]; decide) (by rw [hc]; decide) (by rw [hc]; rfl) (by decide) ?_
        refine lv_aload_n hx hb dX12_finishMore_143 rfl (lv_at hl 0 rfl) ?_
        refine lv_bipush (v := 6) hx hb dX12_finishMore_144 cb_6 ?_
        refine lv_aload_n hx hb dX12_finishMore_146 rfl (lv_at hl 0 rfl) ?_
        refine g_get C hw gM_42 dX12_finishMore_147 ?_
        refine lv_iload_n hx hb dX12_finishMore_150 rfl (lv_at hl 2 rfl) ?_
        obtain ⟨hi, hm⟩ := it_a hm
        refine g_ald C hw aM_42 hi dX12_finishMore_151 ?_
        obtain ⟨r152, iv152, ar152, hc152, hm⟩ := ob_some hm
        refine g_calli (As := [.int 6, .int (ar 42 a2.toNatClampNeg)]) (rest := []) C hw (kX12_newValue hc152) mtX12_newValue lkX12_403 oM hl.1 rfl rfl (Nat.le_of_ble_eq_true rfl) ⟨Nat.le_of_ble_eq_true rfl, Nat.le_of_ble_eq_true rfl⟩ dX12_finishMore_152 ⟨Nat.zero_le _, Nat.zero_le _⟩ (fun H locs hw => ?_)
        refine lv_istore (lv' := [(5, .int r152), (0, .ref o), (1, .int a1), (2, .int a2), (3, .int a3), (4, .int a4)]) hx hb dX12_finishMore_155 hl (by decide) rfl (fun ls hl => ?_)
        refine lv_iload hx hb dX12_finishMore_157 (lv_at hl 0 rfl) ?_
        refine lv_if_lt (tgt := 181) hx hb dX12_finishMore_159 (by decide) (fun hc => ?_) (fun hc => ?_)
        · have hm := it_t hc hm
          refine lv_iload hx hb dX12_finishMore_181 (lv_at hl 0 rfl) ?_
          cases hm
          exact g_iret C hw dX12_finishMore_183
        · have hm := it_f hc hm
          refine lv_aload_n hx hb dX12_finishMore_162 rfl (lv_at hl 1 rfl) ?_
          refine g_get C hw gM_60 dX12_finishMore_163 ?_
          refine lv_bipush (v := 8) hx hb dX12_finishMore_166 cb_8 ?_
          refine lv_iload hx hb dX12_finishMore_168 (lv_at hl 0 rfl) ?_
          refine lv_imul hx hb dX12_finishMore_170 ?_
          refine lv_aload_n hx hb dX12_finishMore_171 rfl (lv_at hl 1 rfl) ?_
          refine g_get C hw gM_42 dX12_finishMore_172 ?_
          refine lv_iload_n hx hb dX12_finishMore_175 rfl (lv_at hl 3 rfl) ?_
          obtain ⟨hi, hm⟩ := it_a hm
          refine g_ald C hw aM_42 hi dX12_finishMore_176 ?_
          refine lv_iadd hx hb dX12_finishMore_177 ?_
          refine lv_iload hx hb dX12_finishMore_178 (lv_at hl 5 rfl) ?_
          obtain ⟨hi, hm⟩ := it_a hm
          refine g_ast C hw sM_60 hi dX12_finishMore_180 (fun H locs hw => ?_)
          refine lv_iload hx hb dX12_finishMore_181 (lv_at hl 0 rfl) ?_
          cases hm
          exact g_iret C hw dX12_finishMore_183
      · have hm := it_f hc31 hm
        refine br_by (c := (ar 40 a2.toNatClampNeg) = 32) (fun hc => ?_) (fun hc32 => ?_)
        · have hm := it_t hc hm
          refine lv_tableIn (off := 178) (tgt := 184) hx hb dX12_finishMore_6 (by rw [hc]; decide) (by rw [hc]; decide) (by rw [hc]; rfl) (by decide) ?_
          refine lv_iconst (v := 0) hx hb dX12_finishMore_184 ci_0 ?_
          refine lv_istore (lv' := [(5, .int 0), (0, .ref o), (1, .int a1), (2, .int a2), (3, .int a3), (4, .int a4)]) hx hb dX12_finishMore_185 hl (by decide) rfl (fun ls hl => ?_)
          exact wX12_finishMore_L187 C bigF _ _ _ _ _ _ _ _ _ hm _ _ _ (lv_sub hl [1, 3, 4, 5, 0] rfl) hw
        · have hm := it_f hc32 hm
          have ho : ((ar 40 a2.toNatClampNeg)).toInt < 29 ∨ 32 < ((ar 40 a2.toNatClampNeg)).toInt := by
            have ehc29 := sw_ne (n := 29) hc29 (by decide)
            have ehc30 := sw_ne (n := 30) hc30 (by decide)
            have ehc31 := sw_ne (n := 31) hc31 (by decide)
            have ehc32 := sw_ne (n := 32) hc32 (by decide)
            omega
          refine lv_tableOut (tgt := 257) hx hb dX12_finishMore_6 ho (by decide) ?_
          refine lv_aload_n hx hb dX12_finishMore_257 rfl (lv_at hl 0 rfl) ?_
          refine lv_iconst (v := 4) hx hb dX12_finishMore_258 ci_4 ?_
          refine lv_iconst (v := 0) hx hb dX12_finishMore_259 ci_0 ?_
          obtain ⟨r260, iv260, ar260, hc260, hm⟩ := ob_some hm
          refine g_calli (As := [.int 4, .int 0]) (rest := []) C hw (kX12_newValue hc260) mtX12_newValue lkX12_403 oM hl.1 rfl rfl (Nat.le_of_ble_eq_true rfl) ⟨Nat.le_of_ble_eq_true rfl, Nat.le_of_ble_eq_true rfl⟩ dX12_finishMore_260 ⟨Nat.zero_le _, Nat.zero_le _⟩ (fun H locs hw => ?_)
          refine lv_istore (lv' := [(5, .int r260), (0, .ref o), (1, .int a1), (2, .int a2), (3, .int a3), (4, .int a4)]) hx hb dX12_finishMore_263 hl (by decide) rfl (fun ls hl => ?_)
          refine lv_iload hx hb dX12_finishMore_265 (lv_at hl 0 rfl) ?_
          refine lv_if_lt (tgt := 292) hx hb dX12_finishMore_267 (by decide) (fun hc => ?_) (fun hc => ?_)
          · have hm := it_t hc hm
            refine lv_iconst (v := (-1)) hx hb dX12_finishMore_292 ci_m1 ?_
            cases hm
            exact g_iret C hw dX12_finishMore_293
          · have hm := it_f hc hm
            refine lv_aload_n hx hb dX12_finishMore_270 rfl (lv_at hl 1 rfl) ?_
            refine lv_aload_n hx hb dX12_finishMore_271 rfl (lv_at hl 1 rfl) ?_
            refine g_get C hw gM_43 dX12_finishMore_272 ?_
            refine lv_bipush (v := 9) hx hb dX12_finishMore_275 cb_9 ?_
            refine lv_iload_n hx hb dX12_finishMore_277 rfl (lv_at hl 3 rfl) ?_
            refine lv_imul hx hb dX12_finishMore_278 ?_
            obtain ⟨hi, hm⟩ := it_a hm
            refine g_ald C hw aM_43 hi dX12_finishMore_279 ?_
            refine lv_aload_n hx hb dX12_finishMore_280 rfl (lv_at hl 1 rfl) ?_
            refine lv_iload hx hb dX12_finishMore_281 (lv_at hl 0 rfl) ?_
            refine lv_iload_n hx hb dX12_finishMore_283 rfl (lv_at hl 4 rfl) ?_
            obtain ⟨r284, iv284, ar284, hc284, hm⟩ := ob_some hm
            refine g_calli (As := [.int r260, .int a3]) (rest := [.int (ar260 43 (9 * a2).toNatClampNeg), .ref o]) C hw (kX12_bind hc284) mtX12_bind lkX12_406 oM hl.1 rfl rfl (Nat.le_of_ble_eq_true rfl) ⟨Nat.le_of_ble_eq_true rfl, Nat.le_of_ble_eq_true rfl⟩ dX12_finishMore_284 ⟨Nat.zero_le _, Nat.zero_le _⟩ (fun H locs hw => ?_)
            refine lv_iload hx hb dX12_finishMore_287 (lv_at hl 0 rfl) ?_
            obtain ⟨r289, iv289, ar289, hc289, hm⟩ := ob_some hm
            refine g_callv (As := [.int (ar260 43 (9 * a2).toNatClampNeg), .int r284, .int r260]) (rest := []) C hw (kX12_next hc289) mtX12_next lkX12_400 oM hl.1 rfl rfl (Nat.le_of_ble_eq_true rfl) ⟨Nat.le_of_ble_eq_true rfl, Nat.le_of_ble_eq_true rfl⟩ dX12_finishMore_289 ⟨Nat.zero_le _, Nat.zero_le _⟩ (fun H locs hw => ?_)
            refine lv_iconst (v := (-1)) hx hb dX12_finishMore_292 ci_m1 ?_
            cases hm
            exact g_iret C hw dX12_finishMore_293
def mX12_finish_J160 (l2 : Int32) (l3 : Int32) (s0 : Int32) (iv : mI) (ar : mA) : Option (Int32 × mI × mA) := if s0 < 0 then some (s0, iv, ar) else if (9 * l2) < 0 ∨ 1800 ≤ (9 * l2).toNatClampNeg then none else if s0 < 0 ∨ 2000 ≤ s0.toNatClampNeg then none else if s0 < 0 ∨ 2000 ≤ s0.toNatClampNeg then none else some (s0, iv, au (au ar 61 s0.toNatClampNeg (ar 43 (9 * l2).toNatClampNeg)) 62 s0.toNatClampNeg l3)
set_option maxRecDepth 100000 in
set_option maxHeartbeats 4000000 in
theorem wX12_finish_J160 (C : mCx p s m args meth c RX12 cX12_finish 9 (some .int) D cI cJ A) : ∀ (l2 : Int32) (l3 : Int32) (s0 : Int32) (iv : mI) (ar : mA) (rz : Int32) (ivz : mI) (arz : mA), mX12_finish_J160 l2 l3 s0 iv ar = some (rz, ivz, arz) → ∀ (H : Heap) (locs : List Loc) (ls : Array Slot), lv_has ls 9 [(0, .ref o), (2, .int l2), (3, .int l3)] → inW D A s (wM cI o ad iv ar) H locs → W p l e (rmO 2 50) s m args below meth c H locs 0 0 (MQ below (ctQ D cI cJ (wM cI o ad ivz arz) A rz) args s 0 0 A) (F0 m 160 ls [.int s0]) := by
  intro l2 l3 s0 iv ar rz ivz arz hm H locs ls hl hw
  have hx := C.1.1
  have hb := C.1.2.1
  unfold mX12_finish_J160 at hm
  refine lv_istore (lv' := [(7, .int s0), (0, .ref o), (2, .int l2), (3, .int l3)]) hx hb dX12_finish_160 hl (by decide) rfl (fun ls hl => ?_)
  refine lv_iload hx hb dX12_finish_162 (lv_at hl 0 rfl) ?_
  refine lv_if_lt (tgt := 191) hx hb dX12_finish_164 (by decide) (fun hc => ?_) (fun hc => ?_)
  · have hm := it_t hc hm
    refine lv_iload hx hb dX12_finish_191 (lv_at hl 0 rfl) ?_
    cases hm
    exact g_iret C hw dX12_finish_193
  · have hm := it_f hc hm
    refine lv_aload_n hx hb dX12_finish_167 rfl (lv_at hl 1 rfl) ?_
    refine g_get C hw gM_61 dX12_finish_168 ?_
    refine lv_iload hx hb dX12_finish_171 (lv_at hl 0 rfl) ?_
    refine lv_aload_n hx hb dX12_finish_173 rfl (lv_at hl 1 rfl) ?_
    refine g_get C hw gM_43 dX12_finish_174 ?_
    refine lv_bipush (v := 9) hx hb dX12_finish_177 cb_9 ?_
    refine lv_iload_n hx hb dX12_finish_179 rfl (lv_at hl 2 rfl) ?_
    refine lv_imul hx hb dX12_finish_180 ?_
    obtain ⟨hi, hm⟩ := it_a hm
    refine g_ald C hw aM_43 hi dX12_finish_181 ?_
    obtain ⟨hi, hm⟩ := it_a hm
    refine g_ast C hw sM_61 hi dX12_finish_182 (fun H locs hw => ?_)
    refine lv_aload_n hx hb dX12_finish_183 rfl (lv_at hl 1 rfl) ?_
    refine g_get C hw gM_62 dX12_finish_184 ?_
    refine lv_iload hx hb dX12_finish_187 (lv_at hl 0 rfl) ?_
    refine lv_iload_n hx hb dX12_finish_189 rfl (lv_at hl 3 rfl) ?_
    obtain ⟨hi, hm⟩ := it_a hm
    refine g_ast C hw sM_62 hi dX12_finish_190 (fun H locs hw => ?_)
    refine lv_iload hx hb dX12_finish_191 (lv_at hl 0 rfl) ?_
    cases hm
    exact g_iret C hw dX12_finish_193
def mX12_finish_L110 : Nat → Int32 → Int32 → Int32 → mI → mA → Option (Int32 × mI × mA)
  | 0, _, _, _, _, _ => none
  | n + 1, l2, l7, l8, iv, ar => if l2 < 0 ∨ 200 ≤ l2.toNatClampNeg then none else if (ar 41 l2.toNatClampNeg) ≤ l8 then if l7 < 0 ∨ 20400 ≤ l7.toNatClampNeg then none else some ((ar 63 l7.toNatClampNeg), iv, ar) else if l7 < 0 ∨ 20400 ≤ l7.toNatClampNeg then none else mX12_finish_L110 n l2 (ar 64 l7.toNatClampNeg) (l8 + 1) iv ar
set_option maxRecDepth 100000 in
set_option maxHeartbeats 4000000 in
theorem wX12_finish_L110 (C : mCx p s m args meth c RX12 cX12_finish 9 (some .int) D cI cJ A) (n : Nat) : ∀ (l2 : Int32) (l7 : Int32) (l8 : Int32) (iv : mI) (ar : mA) (rz : Int32) (ivz : mI) (arz : mA), mX12_finish_L110 n l2 l7 l8 iv ar = some (rz, ivz, arz) → ∀ (H : Heap) (locs : List Loc) (ls : Array Slot), lv_has ls 9 [(0, .ref o), (2, .int l2), (7, .int l7), (8, .int l8)] → inW D A s (wM cI o ad iv ar) H locs → W p l e (rmO 2 50) s m args below meth c H locs 0 0 (MQ below (ctQ D cI cJ (wM cI o ad ivz arz) A rz) args s 0 0 A) (F0 m 110 ls []) := by
  induction n with
  | zero =>
    intro l2 l7 l8 iv ar rz ivz arz hm H locs ls hl hw
    have hm : (none : Option (Int32 × mI × mA)) = some _ := hm
    cases hm
  | succ n ih =>
    intro l2 l7 l8 iv ar rz ivz arz hm H locs ls hl hw
    have hx := C.1.1
    have hb := C.1.2.1
    unfold mX12_finish_L110 at hm
    refine lv_iload hx hb dX12_finish_110 (lv_at hl 3 rfl) ?_
    refine lv_aload_n hx hb dX12_finish_112 rfl (lv_at hl 0 rfl) ?_
    refine g_get C hw gM_41 dX12_finish_113 ?_
    refine lv_iload_n hx hb dX12_finish_116 rfl (lv_at hl 1 rfl) ?_
    obtain ⟨hi, hm⟩ := it_a hm
    refine g_ald C hw aM_41 hi dX12_finish_117 ?_
    refine lv_icmp_ge (tgt := 136) hx hb dX12_finish_118 (by decide) (fun hc => ?_) (fun hc => ?_)
    · have hm := it_t hc hm
      refine lv_aload_n hx hb dX12_finish_136 rfl (lv_at hl 0 rfl) ?_
      refine g_get C hw gM_63 dX12_finish_137 ?_
      refine lv_iload hx hb dX12_finish_140 (lv_at hl 2 rfl) ?_
      obtain ⟨hi, hm⟩ := it_a hm
      refine g_ald C hw aM_63 hi dX12_finish_142 ?_
      cases hm
      exact g_iret C hw dX12_finish_143
    · have hm := it_f hc hm
      refine lv_aload_n hx hb dX12_finish_121 rfl (lv_at hl 0 rfl) ?_
      refine g_get C hw gM_64 dX12_finish_122 ?_
      refine lv_iload hx hb dX12_finish_125 (lv_at hl 2 rfl) ?_
      obtain ⟨hi, hm⟩ := it_a hm
      refine g_ald C hw aM_64 hi dX12_finish_127 ?_
      refine lv_istore (lv' := [(7, .int (ar 64 l7.toNatClampNeg)), (0, .ref o), (2, .int l2), (8, .int l8)]) hx hb dX12_finish_128 hl (by decide) rfl (fun ls hl => ?_)
      refine lv_iinc (v := (l8 + 1)) (lv' := [(8, .int (l8 + 1)), (7, .int (ar 64 l7.toNatClampNeg)), (0, .ref o), (2, .int l2)]) hx hb dX12_finish_130 hl (k := 3) rfl (ii_ ci_1) (by decide) rfl (fun ls hl => ?_)
      refine lv_goto (tgt := 110) hx hb dX12_finish_133 (by decide) ?_
      exact ih _ _ _ _ _ _ _ _ hm _ _ _ (lv_sub hl [2, 3, 1, 0] rfl) hw
def mX12_finish (a1 : Int32) (a2 : Int32) (iv : mI) (ar : mA) : Option (Int32 × mI × mA) := if a1 < 0 ∨ 301 ≤ a1.toNatClampNeg then none else if (9 * a1) < 0 ∨ 2709 ≤ (9 * a1).toNatClampNeg then none else if ((9 * a1) + 1) < 0 ∨ 2709 ≤ ((9 * a1) + 1).toNatClampNeg then none else if a1 < 0 ∨ 301 ≤ a1.toNatClampNeg then none else if a2 < 0 ∨ 200 ≤ a2.toNatClampNeg then none else if (ar 40 a2.toNatClampNeg) = 20 then mX12_finish_L110 bigF a2 (ar 67 a1.toNatClampNeg) 0 (va_up iv 71 ((iv 71) - 1)) ar else if (ar 40 a2.toNatClampNeg) = 21 then if (ar 69 a1.toNatClampNeg) < 0 then ob (mX12_newValue 4 0 (va_up iv 71 ((iv 71) - 1)) ar) (fun r157 iv157 ar157 => mX12_finish_J160 a2 (ar 67 a1.toNatClampNeg) r157 iv157 ar157) else mX12_finish_J160 a2 (ar 67 a1.toNatClampNeg) (ar 69 a1.toNatClampNeg) (va_up iv 71 ((iv 71) - 1)) ar else if (ar 40 a2.toNatClampNeg) = 22 then if (ar 70 (9 * a1).toNatClampNeg) < 0 ∨ 2000 ≤ (ar 70 (9 * a1).toNatClampNeg).toNatClampNeg then none else if (ar 70 (9 * a1).toNatClampNeg) < 0 ∨ 2000 ≤ (ar 70 (9 * a1).toNatClampNeg).toNatClampNeg then none else ob (mX12_bind (ar 70 ((9 * a1) + 1).toNatClampNeg) (ar 62 (ar 70 (9 * a1).toNatClampNeg).toNatClampNeg) (va_up iv 71 ((iv 71) - 1)) ar) (fun r212 iv212 ar212 => ob (mX12_next (ar 61 (ar 70 (9 * a1).toNatClampNeg).toNatClampNeg) r212 (-1) iv212 ar212) (fun r216 iv216 ar216 => some ((-1), iv216, ar216))) else if (ar 40 a2.toNatClampNeg) = 23 then if a2 < 0 ∨ 200 ≤ a2.toNatClampNeg then none else ob (mX12_newValue 2 (ar 41 a2.toNatClampNeg) (va_up iv 71 ((iv 71) - 1)) ar) (fun r229 iv229 ar229 => some (r229, iv229, ar229)) else if (ar 40 a2.toNatClampNeg) = 24 then if (ar 70 (9 * a1).toNatClampNeg) < 0 ∨ 2000 ≤ (ar 70 (9 * a1).toNatClampNeg).toNatClampNeg then none else if (ar 70 ((9 * a1) + 1).toNatClampNeg) < 0 ∨ 2000 ≤ (ar 70 ((9 * a1) + 1).toNatClampNeg).toNatClampNeg then none else ob (mX12_newValue 2 ((ar 59 (ar 70 (9 * a1).toNatClampNeg).toNatClampNeg) + (ar 59 (ar 70 ((9 * a1) + 1).toNatClampNeg).toNatClampNeg)) (va_up iv 71 ((iv 71) - 1)) ar) (fun r250 iv250 ar250 => some (r250, iv250, ar250)) else if (ar 40 a2.toNatClampNeg) = 25 then if (ar 70 (9 * a1).toNatClampNeg) < 0 ∨ 2000 ≤ (ar 70 (9 * a1).toNatClampNeg).toNatClampNeg then none else if (ar 70 ((9 * a1) + 1).toNatClampNeg) < 0 ∨ 2000 ≤ (ar 70 ((9 * a1) + 1).toNatClampNeg).toNatClampNeg then none else if (ar 59 (ar 70 ((9 * a1) + 1).toNatClampNeg).toNatClampNeg) ≤ (ar 59 (ar 70 (9 * a1).toNatClampNeg).toNatClampNeg) then ob (mX12_newValue 3 0 (va_up iv 71 ((iv 71) - 1)) ar) (fun r278 iv278 ar278 => some (r278, iv278, ar278)) else ob (mX12_newValue 3 1 (va_up iv 71 ((iv 71) - 1)) ar) (fun r278 iv278 ar278 => some (r278, iv278, ar278)) else if (ar 40 a2.toNatClampNeg) = 26 then if a2 < 0 ∨ 200 ≤ a2.toNatClampNeg then none else if (ar 40 a2.toNatClampNeg) = 26 then ob (mX12_newValue 3 1 (va_up iv 71 ((iv 71) - 1)) ar) (fun r300 iv300 ar300 => some (r300, iv300, ar300)) else ob (mX12_newValue 3 0 (va_up iv 71 ((iv 71) - 1)) ar) (fun r300 iv300 ar300 => some (r300, iv300, ar300)) else if (ar 40 a2.toNatClampNeg) = 27 then if a2 < 0 ∨ 200 ≤ a2.toNatClampNeg then none else if (ar 40 a2.toNatClampNeg) = 26 then ob (mX12_newValue 3 1 (va_up iv 71 ((iv 71) - 1)) ar) (fun r300 iv300 ar300 => some (r300, iv300, ar300)) else ob (mX12_newValue 3 0 (va_up iv 71 ((iv 71) - 1)) ar) (fun r300 iv300 ar300 => some (r300, iv300, ar300)) else if (ar 40 a2.toNatClampNeg) = 28 then if (ar 70 (9 * a1).toNatClampNeg) < 0 ∨ 2000 ≤ (ar 70 (9 * a1).toNatClampNeg).toNatClampNeg then none else if (ar 59 (ar 70 (9 * a1).toNatClampNeg).toNatClampNeg) = 1 then if ((9 * a2) + 1) < 0 ∨ 1800 ≤ ((9 * a2) + 1).toNatClampNeg then none else ob (mX12_next (ar 43 ((9 * a2) + 1).toNatClampNeg) (ar 67 a1.toNatClampNeg) (-1) (va_up iv 71 ((iv 71) - 1)) ar) (fun r333 iv333 ar333 => some ((-1), iv333, ar333)) else if ((9 * a2) + 2) < 0 ∨ 1800 ≤ ((9 * a2) + 2).toNatClampNeg then none else ob (mX12_next (ar 43 ((9 * a2) + 2).toNatClampNeg) (ar 67 a1.toNatClampNeg) (-1) (va_up iv 71 ((iv 71) - 1)) ar) (fun r333 iv333 ar333 => some ((-1), iv333, ar333)) else ob (mX12_finishMore a1 a2 (ar 67 a1.toNatClampNeg) (ar 70 (9 * a1).toNatClampNeg) (va_up iv 71 ((iv 71) - 1)) ar) (fun r344 iv344 ar344 => some (r344, iv344, ar344))
set_option maxRecDepth 100000 in
set_option maxHeartbeats 4000000 in
theorem kX12_finish {a1 a2 : Int32} {iv ivz : mI} {ar arz : mA} {rz : Int32} (hm : mX12_finish a1 a2 iv ar = some (rz, ivz, arz)) : Ct l D cI cJ yX12_finish cX12_finish 9 (some .int) 2 50 [.ref o, .int a1, .int a2] (wM cI o ad iv ar) (wM cI o ad ivz arz) rz := by
  intro sz
  refine ct_of (by decide) (Nat.le_of_ble_eq_true rfl) ?_
  intro p e s m args below meth c C hw ls hl
  have hl : lv_has ls 9 [(0, .ref o), (1, .int a1), (2, .int a2)] := hl
  have hx := C.1.1
  have hb := C.1.2.1
  unfold mX12_finish at hm
  refine lv_aload_n hx hb dX12_finish_0 rfl (lv_at hl 0 rfl) ?_
  refine g_get C hw gM_67 dX12_finish_1 ?_
  refine lv_iload_n hx hb dX12_finish_4 rfl (lv_at hl 1 rfl) ?_
  obtain ⟨hi, hm⟩ := it_a hm
  refine g_ald C hw aM_67 hi dX12_finish_5 ?_
  refine lv_istore_n (lv' := [(3, .int (ar 67 a1.toNatClampNeg)), (0, .ref o), (1, .int a1), (2, .int a2)]) hx hb dX12_finish_6 rfl hl (by decide) rfl (fun ls hl => ?_)
  refine lv_aload_n hx hb dX12_finish_7 rfl (lv_at hl 1 rfl) ?_
  refine g_get C hw gM_70 dX12_finish_8 ?_
  refine lv_bipush (v := 9) hx hb dX12_finish_11 cb_9 ?_
  refine lv_iload_n hx hb dX12_finish_13 rfl (lv_at hl 2 rfl) ?_
  refine lv_imul hx hb dX12_finish_14 ?_
  obtain ⟨hi, hm⟩ := it_a hm
  refine g_ald C hw aM_70 hi dX12_finish_15 ?_
  refine lv_istore (lv' := [(4, .int (ar 70 (9 * a1).toNatClampNeg)), (3, .int (ar 67 a1.toNatClampNeg)), (0, .ref o), (1, .int a1), (2, .int a2)]) hx hb dX12_finish_16 hl (by decide) rfl (fun ls hl => ?_)
  refine lv_aload_n hx hb dX12_finish_18 rfl (lv_at hl 2 rfl) ?_
  refine g_get C hw gM_70 dX12_finish_19 ?_
  refine lv_bipush (v := 9) hx hb dX12_finish_22 cb_9 ?_
  refine lv_iload_n hx hb dX12_finish_24 rfl (lv_at hl 3 rfl) ?_
  refine lv_imul hx hb dX12_finish_25 ?_
  refine lv_iconst (v := 1) hx hb dX12_finish_26 ci_1 ?_
  refine lv_iadd hx hb dX12_finish_27 ?_
  obtain ⟨hi, hm⟩ := it_a hm
  refine g_ald C hw aM_70 hi dX12_finish_28 ?_
  refine lv_istore (lv' := [(5, .int (ar 70 ((9 * a1) + 1).toNatClampNeg)), (4, .int (ar 70 (9 * a1).toNatClampNeg)), (3, .int (ar 67 a1.toNatClampNeg)), (0, .ref o), (1, .int a1), (2, .int a2)]) hx hb dX12_finish_29 hl (by decide) rfl (fun ls hl => ?_)
  refine lv_aload_n hx hb dX12_finish_31 rfl (lv_at hl 3 rfl) ?_
  refine g_get C hw gM_69 dX12_finish_32 ?_
  refine lv_iload_n hx hb dX12_finish_35 rfl (lv_at hl 4 rfl) ?_
  obtain ⟨hi, hm⟩ := it_a hm
  refine g_ald C hw aM_69 hi dX12_finish_36 ?_
  refine lv_istore (lv' := [(6, .int (ar 69 a1.toNatClampNeg)), (5, .int (ar 70 ((9 * a1) + 1).toNatClampNeg)), (4, .int (ar 70 (9 * a1).toNatClampNeg)), (3, .int (ar 67 a1.toNatClampNeg)), (0, .ref o), (1, .int a1), (2, .int a2)]) hx hb dX12_finish_37 hl (by decide) rfl (fun ls hl => ?_)
  refine lv_aload_n hx hb dX12_finish_39 rfl (lv_at hl 4 rfl) ?_
  refine lv_dup hx hb dX12_finish_40 rfl ?_
  refine g_get C hw gM_71 dX12_finish_41 ?_
  refine lv_iconst (v := 1) hx hb dX12_finish_44 ci_1 ?_
  refine lv_isub hx hb dX12_finish_45 ?_
  refine g_put C hw pM_71 dX12_finish_46 (fun H locs hw => ?_)
  refine lv_aload_n hx hb dX12_finish_49 rfl (lv_at hl 4 rfl) ?_
  refine g_get C hw gM_40 dX12_finish_50 ?_
  refine lv_iload_n hx hb dX12_finish_53 rfl (lv_at hl 6 rfl) ?_
  obtain ⟨hi, hm⟩ := it_a hm
  refine g_ald C hw aM_40 hi dX12_finish_54 ?_
  refine br_by (c := (ar 40 a2.toNatClampNeg) = 20) (fun hc => ?_) (fun hc20 => ?_)
  · have hm := it_t hc hm
    refine lv_tableIn (off := 49) (tgt := 104) hx hb dX12_finish_55 (by rw [hc]; decide) (by rw [hc]; decide) (by rw [hc]; rfl) (by decide) ?_
    refine lv_iload_n hx hb dX12_finish_104 rfl (lv_at hl 3 rfl) ?_
    refine lv_istore (lv' := [(7, .int (ar 67 a1.toNatClampNeg)), (6, .int (ar 69 a1.toNatClampNeg)), (5, .int (ar 70 ((9 * a1) + 1).toNatClampNeg)), (4, .int (ar 70 (9 * a1).toNatClampNeg)), (3, .int (ar 67 a1.toNatClampNeg)), (0, .ref o), (1, .int a1), (2, .int a2)]) hx hb dX12_finish_105 hl (by decide) rfl (fun ls hl => ?_)
    refine lv_iconst (v := 0) hx hb dX12_finish_107 ci_0 ?_
    refine lv_istore (lv' := [(8, .int 0), (7, .int (ar 67 a1.toNatClampNeg)), (6, .int (ar 69 a1.toNatClampNeg)), (5, .int (ar 70 ((9 * a1) + 1).toNatClampNeg)), (4, .int (ar 70 (9 * a1).toNatClampNeg)), (3, .int (ar 67 a1.toNatClampNeg)), (0, .ref o), (1, .int a1), (2, .int a2)]) hx hb dX12_finish_108 hl (by decide) rfl (fun ls hl => ?_)
    exact wX12_finish_L110 C bigF _ _ _ _ _ _ _ _ hm _ _ _ (lv_sub hl [6, 8, 1, 0] rfl) hw
  · have hm := it_f hc20 hm
    refine br_by (c := (ar 40 a2.toNatClampNeg) = 21) (fun hc => ?_) (fun hc21 => ?_)
    · have hm := it_t hc hm
      refine lv_tableIn (off := 89) (tgt := 144) hx hb dX12_finish_55 (by rw [hc]; decide) (by rw [hc]; decide) (by rw [hc]; rfl) (by decide) ?_
      refine lv_iload hx hb dX12_finish_144 (lv_at hl 0 rfl) ?_
      refine lv_if_lt (tgt := 154) hx hb dX12_finish_146 (by decide) (fun hc => ?_) (fun hc => ?_)
      · have hm := it_t hc hm
        refine lv_aload_n hx hb dX12_finish_154 rfl (lv_at hl 4 rfl) ?_
        refine lv_iconst (v := 4) hx hb dX12_finish_155 ci_4 ?_
        refine lv_iconst (v := 0) hx hb dX12_finish_156 ci_0 ?_
        obtain ⟨r157, iv157, ar157, hc157, hm⟩ := ob_some hm
        refine g_calli (As := [.int 4, .int 0]) (rest := []) C hw (kX12_newValue hc157) mtX12_newValue lkX12_403 oM hl.1 rfl rfl (Nat.le_of_ble_eq_true rfl) ⟨Nat.le_of_ble_eq_true rfl, Nat.le_of_ble_eq_true rfl⟩ dX12_finish_157 ⟨Nat.zero_le _, Nat.zero_le _⟩ (fun H locs hw => ?_)
        exact wX12_finish_J160 C _ _ _ _ _ _ _ _ hm _ _ _ (lv_sub hl [4, 6, 3] rfl) hw
      · have hm := it_f hc hm
        refine lv_iload hx hb dX12_finish_149 (lv_at hl 0 rfl) ?_
        refine lv_goto (tgt := 160) hx hb dX12_finish_151 (by decide) ?_
        exact wX12_finish_J160 C _ _ _ _ _ _ _ _ hm _ _ _ (lv_sub hl [4, 6, 3] rfl) hw
    · have hm := it_f hc21 hm
      refine br_by (c := (ar 40 a2.toNatClampNeg) = 22) (fun hc => ?_) (fun hc22 => ?_)
      · have hm := it_t hc hm
        refine lv_tableIn (off := 139) (tgt := 194) hx hb dX12_finish_55 (by rw [hc]; decide) (by rw [hc]; decide) (by rw [hc]; rfl) (by decide) ?_
        refine lv_aload_n hx hb dX12_finish_194 rfl (lv_at hl 4 rfl) ?_
        refine lv_aload_n hx hb dX12_finish_195 rfl (lv_at hl 4 rfl) ?_
        refine g_get C hw gM_61 dX12_finish_196 ?_
        refine lv_iload hx hb dX12_finish_199 (lv_at hl 2 rfl) ?_
        obtain ⟨hi, hm⟩ := it_a hm
        refine g_ald C hw aM_61 hi dX12_finish_201 ?_
        refine lv_aload_n hx hb dX12_finish_202 rfl (lv_at hl 4 rfl) ?_
        refine lv_iload hx hb dX12_finish_203 (lv_at hl 1 rfl) ?_
        refine lv_aload_n hx hb dX12_finish_205 rfl (lv_at hl 4 rfl) ?_
        refine g_get C hw gM_62 dX12_finish_206 ?_
        refine lv_iload hx hb dX12_finish_209 (lv_at hl 2 rfl) ?_
        obtain ⟨hi, hm⟩ := it_a hm
        refine g_ald C hw aM_62 hi dX12_finish_211 ?_
        obtain ⟨r212, iv212, ar212, hc212, hm⟩ := ob_some hm
        refine g_calli (As := [.int (ar 70 ((9 * a1) + 1).toNatClampNeg), .int (ar 62 (ar 70 (9 * a1).toNatClampNeg).toNatClampNeg)]) (rest := [.int (ar 61 (ar 70 (9 * a1).toNatClampNeg).toNatClampNeg), .ref o]) C hw (kX12_bind hc212) mtX12_bind lkX12_406 oM hl.1 rfl rfl (Nat.le_of_ble_eq_true rfl) ⟨Nat.le_of_ble_eq_true rfl, Nat.le_of_ble_eq_true rfl⟩ dX12_finish_212 ⟨Nat.zero_le _, Nat.zero_le _⟩ (fun H locs hw => ?_)
        refine lv_iconst (v := (-1)) hx hb dX12_finish_215 ci_m1 ?_
        obtain ⟨r216, iv216, ar216, hc216, hm⟩ := ob_some hm
        refine g_callv (As := [.int (ar 61 (ar 70 (9 * a1).toNatClampNeg).toNatClampNeg), .int r212, .int (-1)]) (rest := []) C hw (kX12_next hc216) mtX12_next lkX12_400 oM hl.1 rfl rfl (Nat.le_of_ble_eq_true rfl) ⟨Nat.le_of_ble_eq_true rfl, Nat.le_of_ble_eq_true rfl⟩ dX12_finish_216 ⟨Nat.zero_le _, Nat.zero_le _⟩ (fun H locs hw => ?_)
        refine lv_iconst (v := (-1)) hx hb dX12_finish_219 ci_m1 ?_
        cases hm
        exact g_iret C hw dX12_finish_220
      · have hm := it_f hc22 hm
        refine br_by (c := (ar 40 a2.toNatClampNeg) = 23) (fun hc => ?_) (fun hc23 => ?_)
        · have hm := it_t hc hm
          refine lv_tableIn (off := 166) (tgt := 221) hx hb dX12_finish_55 (by rw [hc]; decide) (by rw [hc]; decide) (by rw [hc]; rfl) (by decide) ?_
          refine lv_aload_n hx hb dX12_finish_221 rfl (lv_at hl 4 rfl) ?_
          refine lv_iconst (v := 2) hx hb dX12_finish_222 ci_2 ?_
          refine lv_aload_n hx hb dX12_finish_223 rfl (lv_at hl 4 rfl) ?_
          refine g_get C hw gM_41 dX12_finish_224 ?_
          refine lv_iload_n hx hb dX12_finish_227 rfl (lv_at hl 6 rfl) ?_
          obtain ⟨hi, hm⟩ := it_a hm
          refine g_ald C hw aM_41 hi dX12_finish_228 ?_
          obtain ⟨r229, iv229, ar229, hc229, hm⟩ := ob_some hm
          refine g_calli (As := [.int 2, .int (ar 41 a2.toNatClampNeg)]) (rest := []) C hw (kX12_newValue hc229) mtX12_newValue lkX12_403 oM hl.1 rfl rfl (Nat.le_of_ble_eq_true rfl) ⟨Nat.le_of_ble_eq_true rfl, Nat.le_of_ble_eq_true rfl⟩ dX12_finish_229 ⟨Nat.zero_le _, Nat.zero_le _⟩ (fun H locs hw => ?_)
          cases hm
          exact g_iret C hw dX12_finish_232
        · have hm := it_f hc23 hm
          refine br_by (c := (ar 40 a2.toNatClampNeg) = 24) (fun hc => ?_) (fun hc24 => ?_)
          · have hm := it_t hc hm
            refine lv_tableIn (off := 178) (tgt := 233) hx hb dX12_finish_55 (by rw [hc]; decide) (by rw [hc]; decide) (by rw [hc]; rfl) (by decide) ?_
            refine lv_aload_n hx hb dX12_finish_233 rfl (lv_at hl 4 rfl) ?_
            refine lv_iconst (v := 2) hx hb dX12_finish_234 ci_2 ?_
            refine lv_aload_n hx hb dX12_finish_235 rfl (lv_at hl 4 rfl) ?_
            refine g_get C hw gM_59 dX12_finish_236 ?_
            refine lv_iload hx hb dX12_finish_239 (lv_at hl 2 rfl) ?_
            obtain ⟨hi, hm⟩ := it_a hm
            refine g_ald C hw aM_59 hi dX12_finish_241 ?_
            refine lv_aload_n hx hb dX12_finish_242 rfl (lv_at hl 4 rfl) ?_
            refine g_get C hw gM_59 dX12_finish_243 ?_
            refine lv_iload hx hb dX12_finish_246 (lv_at hl 1 rfl) ?_
            obtain ⟨hi, hm⟩ := it_a hm
            refine g_ald C hw aM_59 hi dX12_finish_248 ?_
            refine lv_iadd hx hb dX12_finish_249 ?_
            obtain ⟨r250, iv250, ar250, hc250, hm⟩ := ob_some hm
            refine g_calli (As := [.int 2, .int ((ar 59 (ar 70 (9 * a1).toNatClampNeg).toNatClampNeg) + (ar 59 (ar 70 ((9 * a1) + 1).toNatClampNeg).toNatClampNeg))]) (rest := []) C hw (kX12_newValue hc250) mtX12_newValue lkX12_403 oM hl.1 rfl rfl (Nat.le_of_ble_eq_true rfl) ⟨Nat.le_of_ble_eq_true rfl, Nat.le_of_ble_eq_true rfl⟩ dX12_finish_250 ⟨Nat.zero_le _, Nat.zero_le _⟩ (fun H locs hw => ?_)
            cases hm
            exact g_iret C hw dX12_finish_253
          · have hm := it_f hc24 hm
            refine br_by (c := (ar 40 a2.toNatClampNeg) = 25) (fun hc => ?_) (fun hc25 => ?_)
            · have hm := it_t hc hm
              refine lv_tableIn (off := 199) (tgt := 254) hx hb dX12_finish_55 (by rw [hc]; decide) (by rw [hc]; decide) (by rw [hc]; rfl) (by decide) ?_
              refine lv_aload_n hx hb dX12_finish_254 rfl (lv_at hl 4 rfl) ?_
              refine lv_iconst (v := 3) hx hb dX12_finish_255 ci_3 ?_
              refine lv_aload_n hx hb dX12_finish_256 rfl (lv_at hl 4 rfl) ?_
              refine g_get C hw gM_59 dX12_finish_257 ?_
              refine lv_iload hx hb dX12_finish_260 (lv_at hl 2 rfl) ?_
              obtain ⟨hi, hm⟩ := it_a hm
              refine g_ald C hw aM_59 hi dX12_finish_262 ?_
              refine lv_aload_n hx hb dX12_finish_263 rfl (lv_at hl 4 rfl) ?_
              refine g_get C hw gM_59 dX12_finish_264 ?_
              refine lv_iload hx hb dX12_finish_267 (lv_at hl 1 rfl) ?_
              obtain ⟨hi, hm⟩ := it_a hm
              refine g_ald C hw aM_59 hi dX12_finish_269 ?_
              refine lv_icmp_ge (tgt := 277) hx hb dX12_finish_270 (by decide) (fun hc => ?_) (fun hc => ?_)
              · have hm := it_t hc hm
                refine lv_iconst (v := 0) hx hb dX12_finish_277 ci_0 ?_
                obtain ⟨r278, iv278, ar278, hc278, hm⟩ := ob_some hm
                refine g_calli (As := [.int 3, .int 0]) (rest := []) C hw (kX12_newValue hc278) mtX12_newValue lkX12_403 oM hl.1 rfl rfl (Nat.le_of_ble_eq_true rfl) ⟨Nat.le_of_ble_eq_true rfl, Nat.le_of_ble_eq_true rfl⟩ dX12_finish_278 ⟨Nat.zero_le _, Nat.zero_le _⟩ (fun H locs hw => ?_)
                cases hm
                exact g_iret C hw dX12_finish_281
              · have hm := it_f hc hm
                refine lv_iconst (v := 1) hx hb dX12_finish_273 ci_1 ?_
                refine lv_goto (tgt := 278) hx hb dX12_finish_274 (by decide) ?_
                obtain ⟨r278, iv278, ar278, hc278, hm⟩ := ob_some hm
                refine g_calli (As := [.int 3, .int 1]) (rest := []) C hw (kX12_newValue hc278) mtX12_newValue lkX12_403 oM hl.1 rfl rfl (Nat.le_of_ble_eq_true rfl) ⟨Nat.le_of_ble_eq_true rfl, Nat.le_of_ble_eq_true rfl⟩ dX12_finish_278 ⟨Nat.zero_le _, Nat.zero_le _⟩ (fun H locs hw => ?_)
                cases hm
                exact g_iret C hw dX12_finish_281
            · have hm := it_f hc25 hm
              refine br_by (c := (ar 40 a2.toNatClampNeg) = 26) (fun hc => ?_) (fun hc26 => ?_)
              · have hm := it_t hc hm
                refine lv_tableIn (off := 227) (tgt := 282) hx hb dX12_finish_55 (by rw [hc]; decide) (by rw [hc]; decide) (by rw [hc]; rfl) (by decide) ?_
                refine lv_aload_n hx hb dX12_finish_282 rfl (lv_at hl 4 rfl) ?_
                refine lv_iconst (v := 3) hx hb dX12_finish_283 ci_3 ?_
                refine lv_aload_n hx hb dX12_finish_284 rfl (lv_at hl 4 rfl) ?_
                refine g_get C hw gM_40 dX12_finish_285 ?_
                refine lv_iload_n hx hb dX12_finish_288 rfl (lv_at hl 6 rfl) ?_
                obtain ⟨hi, hm⟩ := it_a hm
                refine g_ald C hw aM_40 hi dX12_finish_289 ?_
                refine lv_bipush (v := 26) hx hb dX12_finish_290 cb_26 ?_
                refine lv_icmp_ne (tgt := 299) hx hb dX12_finish_292 (by decide) (fun hc => ?_) (fun hc => ?_)
                · have hm := it_f hc hm
                  refine lv_iconst (v := 0) hx hb dX12_finish_299 ci_0 ?_
                  obtain ⟨r300, iv300, ar300, hc300, hm⟩ := ob_some hm
                  refine g_calli (As := [.int 3, .int 0]) (rest := []) C hw (kX12_newValue hc300) mtX12_newValue lkX12_403 oM hl.1 rfl rfl (Nat.le_of_ble_eq_true rfl) ⟨Nat.le_of_ble_eq_true rfl, Nat.le_of_ble_eq_true rfl⟩ dX12_finish_300 ⟨Nat.zero_le _, Nat.zero_le _⟩ (fun H locs hw => ?_)
                  cases hm
                  exact g_iret C hw dX12_finish_303
                · have hm := it_t hc hm
                  refine lv_iconst (v := 1) hx hb dX12_finish_295 ci_1 ?_
                  refine lv_goto (tgt := 300) hx hb dX12_finish_296 (by decide) ?_
                  obtain ⟨r300, iv300, ar300, hc300, hm⟩ := ob_some hm
                  refine g_calli (As := [.int 3, .int 1]) (rest := []) C hw (kX12_newValue hc300) mtX12_newValue lkX12_403 oM hl.1 rfl rfl (Nat.le_of_ble_eq_true rfl) ⟨Nat.le_of_ble_eq_true rfl, Nat.le_of_ble_eq_true rfl⟩ dX12_finish_300 ⟨Nat.zero_le _, Nat.zero_le _⟩ (fun H locs hw => ?_)
                  cases hm
                  exact g_iret C hw dX12_finish_303
              · have hm := it_f hc26 hm
                refine br_by (c := (ar 40 a2.toNatClampNeg) = 27) (fun hc => ?_) (fun hc27 => ?_)
                · have hm := it_t hc hm
                  refine lv_tableIn (off := 227) (tgt := 282) hx hb dX12_finish_55 (by rw [hc]; decide) (by rw [hc]; decide) (by rw [hc]; rfl) (by decide) ?_
                  refine lv_aload_n hx hb dX12_finish_282 rfl (lv_at hl 4 rfl) ?_
                  refine lv_iconst (v := 3) hx hb dX12_finish_283 ci_3 ?_
                  refine lv_aload_n hx hb dX12_finish_284 rfl (lv_at hl 4 rfl) ?_
                  refine g_get C hw gM_40 dX12_finish_285 ?_
                  refine lv_iload_n hx hb dX12_finish_288 rfl (lv_at hl 6 rfl) ?_
                  obtain ⟨hi, hm⟩ := it_a hm
                  refine g_ald C hw aM_40 hi dX12_finish_289 ?_
                  refine lv_bipush (v := 26) hx hb dX12_finish_290 cb_26 ?_
                  refine lv_icmp_ne (tgt := 299) hx hb dX12_finish_292 (by decide) (fun hc => ?_) (fun hc => ?_)
                  · have hm := it_f hc hm
                    refine lv_iconst (v := 0) hx hb dX12_finish_299 ci_0 ?_
                    obtain ⟨r300, iv300, ar300, hc300, hm⟩ := ob_some hm
                    refine g_calli (As := [.int 3, .int 0]) (rest := []) C hw (kX12_newValue hc300) mtX12_newValue lkX12_403 oM hl.1 rfl rfl (Nat.le_of_ble_eq_true rfl) ⟨Nat.le_of_ble_eq_true rfl, Nat.le_of_ble_eq_true rfl⟩ dX12_finish_300 ⟨Nat.zero_le _, Nat.zero_le _⟩ (fun H locs hw => ?_)
                    cases hm
                    exact g_iret C hw dX12_finish_303
                  · have hm := it_t hc hm
                    refine lv_iconst (v := 1) hx hb dX12_finish_295 ci_1 ?_
                    refine lv_goto (tgt := 300) hx hb dX12_finish_296 (by decide) ?_
                    obtain ⟨r300, iv300, ar300, hc300, hm⟩ := ob_some hm
                    refine g_calli (As := [.int 3, .int 1]) (rest := []) C hw (kX12_newValue hc300) mtX12_newValue lkX12_403 oM hl.1 rfl rfl (Nat.le_of_ble_eq_true rfl) ⟨Nat.le_of_ble_eq_true rfl, Nat.le_of_ble_eq_true rfl⟩ dX12_finish_300 ⟨Nat.zero_le _, Nat.zero_le _⟩ (fun H locs hw => ?_)
                    cases hm
                    exact g_iret C hw dX12_finish_303
                · have hm := it_f hc27 hm
                  refine br_by (c := (ar 40 a2.toNatClampNeg) = 28) (fun hc => ?_) (fun hc28 => ?_)
                  · have hm := it_t hc hm
                    refine lv_tableIn (off := 249) (tgt := 304) hx hb dX12_finish_55 (by rw [hc]; decide) (by rw [hc]; decide) (by rw [hc]; rfl) (by decide) ?_
                    refine lv_aload_n hx hb dX12_finish_304 rfl (lv_at hl 4 rfl) ?_
                    refine lv_aload_n hx hb dX12_finish_305 rfl (lv_at hl 4 rfl) ?_
                    refine g_get C hw gM_43 dX12_finish_306 ?_
                    refine lv_bipush (v := 9) hx hb dX12_finish_309 cb_9 ?_
                    refine lv_iload_n hx hb dX12_finish_311 rfl (lv_at hl 6 rfl) ?_
                    refine lv_imul hx hb dX12_finish_312 ?_
                    refine lv_aload_n hx hb dX12_finish_313 rfl (lv_at hl 4 rfl) ?_
                    refine g_get C hw gM_59 dX12_finish_314 ?_
                    refine lv_iload hx hb dX12_finish_317 (lv_at hl 2 rfl) ?_
                    obtain ⟨hi, hm⟩ := it_a hm
                    refine g_ald C hw aM_59 hi dX12_finish_319 ?_
                    refine lv_iconst (v := 1) hx hb dX12_finish_320 ci_1 ?_
                    refine lv_icmp_ne (tgt := 328) hx hb dX12_finish_321 (by decide) (fun hc => ?_) (fun hc => ?_)
                    · have hm := it_f hc hm
                      refine lv_iconst (v := 2) hx hb dX12_finish_328 ci_2 ?_
                      refine lv_iadd hx hb dX12_finish_329 ?_
                      obtain ⟨hi, hm⟩ := it_a hm
                      refine g_ald C hw aM_43 hi dX12_finish_330 ?_
                      refine lv_iload_n hx hb dX12_finish_331 rfl (lv_at hl 3 rfl) ?_
                      refine lv_iconst (v := (-1)) hx hb dX12_finish_332 ci_m1 ?_
                      obtain ⟨r333, iv333, ar333, hc333, hm⟩ := ob_some hm
                      refine g_callv (As := [.int (ar 43 ((9 * a2) + 2).toNatClampNeg), .int (ar 67 a1.toNatClampNeg), .int (-1)]) (rest := []) C hw (kX12_next hc333) mtX12_next lkX12_400 oM hl.1 rfl rfl (Nat.le_of_ble_eq_true rfl) ⟨Nat.le_of_ble_eq_true rfl, Nat.le_of_ble_eq_true rfl⟩ dX12_finish_333 ⟨Nat.zero_le _, Nat.zero_le _⟩ (fun H locs hw => ?_)
                      refine lv_iconst (v := (-1)) hx hb dX12_finish_336 ci_m1 ?_
                      cases hm
                      exact g_iret C hw dX12_finish_337
                    · have hm := it_t hc hm
                      refine lv_iconst (v := 1) hx hb dX12_finish_324 ci_1 ?_
                      refine lv_goto (tgt := 329) hx hb dX12_finish_325 (by decide) ?_
                      refine lv_iadd hx hb dX12_finish_329 ?_
                      obtain ⟨hi, hm⟩ := it_a hm
                      refine g_ald C hw aM_43 hi dX12_finish_330 ?_
                      refine lv_iload_n hx hb dX12_finish_331 rfl (lv_at hl 3 rfl) ?_
                      refine lv_iconst (v := (-1)) hx hb dX12_finish_332 ci_m1 ?_
                      obtain ⟨r333, iv333, ar333, hc333, hm⟩ := ob_some hm
                      refine g_callv (As := [.int (ar 43 ((9 * a2) + 1).toNatClampNeg), .int (ar 67 a1.toNatClampNeg), .int (-1)]) (rest := []) C hw (kX12_next hc333) mtX12_next lkX12_400 oM hl.1 rfl rfl (Nat.le_of_ble_eq_true rfl) ⟨Nat.le_of_ble_eq_true rfl, Nat.le_of_ble_eq_true rfl⟩ dX12_finish_333 ⟨Nat.zero_le _, Nat.zero_le _⟩ (fun H locs hw => ?_)
                      refine lv_iconst (v := (-1)) hx hb dX12_finish_336 ci_m1 ?_
                      cases hm
                      exact g_iret C hw dX12_finish_337
                  · have hm := it_f hc28 hm
                    have ho : ((ar 40 a2.toNatClampNeg)).toInt < 20 ∨ 28 < ((ar 40 a2.toNatClampNeg)).toInt := by
                      have ehc20 := sw_ne (n := 20) hc20 (by decide)
                      have ehc21 := sw_ne (n := 21) hc21 (by decide)
                      have ehc22 := sw_ne (n := 22) hc22 (by decide)
                      have ehc23 := sw_ne (n := 23) hc23 (by decide)
                      have ehc24 := sw_ne (n := 24) hc24 (by decide)
                      have ehc25 := sw_ne (n := 25) hc25 (by decide)
                      have ehc26 := sw_ne (n := 26) hc26 (by decide)
                      have ehc27 := sw_ne (n := 27) hc27 (by decide)
                      have ehc28 := sw_ne (n := 28) hc28 (by decide)
                      omega
                    refine lv_tableOut (tgt := 338) hx hb dX12_finish_55 ho (by decide) ?_
                    refine lv_aload_n hx hb dX12_finish_338 rfl (lv_at hl 4 rfl) ?_
                    refine lv_iload_n hx hb dX12_finish_339 rfl (lv_at hl 5 rfl) ?_
                    refine lv_iload_n hx hb dX12_finish_340 rfl (lv_at hl 6 rfl) ?_
                    refine lv_iload_n hx hb dX12_finish_341 rfl (lv_at hl 3 rfl) ?_
                    refine lv_iload hx hb dX12_finish_342 (lv_at hl 2 rfl) ?_
                    obtain ⟨r344, iv344, ar344, hc344, hm⟩ := ob_some hm
                    refine g_calli (As := [.int a1, .int a2, .int (ar 67 a1.toNatClampNeg), .int (ar 70 (9 * a1).toNatClampNeg)]) (rest := []) C hw (kX12_finishMore hc344) mtX12_finishMore lkX12_409 oM hl.1 rfl rfl (Nat.le_of_ble_eq_true rfl) ⟨Nat.le_of_ble_eq_true rfl, Nat.le_of_ble_eq_true rfl⟩ dX12_finish_344 ⟨Nat.zero_le _, Nat.zero_le _⟩ (fun H locs hw => ?_)
                    cases hm
                    exact g_iret C hw dX12_finish_347
def mX12_goOn_J61 (k2 : Int32 → mI → mA → Option (Int32 × mI × mA)) (l2 : Int32) (l3 : Int32) (iv : mI) (ar : mA) : Option (Int32 × mI × mA) := ob (mX12_wantsMore l2 l3 iv ar) (fun r66 iv66 ar66 => if r66 = 0 then ob (mX12_finish l2 l3 iv66 ar66) (fun r75 iv75 ar75 => if 0 ≤ (iv75 73) then k2 r75 iv75 ar75 else if (iv75 72) = 0 then if (iv75 71) = 0 then some (r75, iv75, ar75) else k2 r75 iv75 ar75 else k2 r75 iv75 ar75) else k2 (-1) iv66 ar66)
set_option maxRecDepth 100000 in
set_option maxHeartbeats 4000000 in
theorem wX12_goOn_J61 {k2 : Int32 → mI → mA → Option (Int32 × mI × mA)} (C : mCx p s m args meth c RX12 cX12_goOn 4 (some .int) D cI cJ A) (hk2 : ∀ (l1 : Int32) (iv : mI) (ar : mA) (rz : Int32) (ivz : mI) (arz : mA), k2 l1 iv ar = some (rz, ivz, arz) → ∀ (H : Heap) (locs : List Loc) (ls : Array Slot), lv_has ls 4 [(0, .ref o), (1, .int l1)] → inW D A s (wM cI o ad iv ar) H locs → W p l e (rmO 3 78) s m args below meth c H locs 0 0 (MQ below (ctQ D cI cJ (wM cI o ad ivz arz) A rz) args s 0 0 A) (F0 m 2 ls [])) : ∀ (l2 : Int32) (l3 : Int32) (iv : mI) (ar : mA) (rz : Int32) (ivz : mI) (arz : mA), mX12_goOn_J61 k2 l2 l3 iv ar = some (rz, ivz, arz) → ∀ (H : Heap) (locs : List Loc) (ls : Array Slot), lv_has ls 4 [(0, .ref o), (2, .int l2), (3, .int l3)] → inW D A s (wM cI o ad iv ar) H locs → W p l e (rmO 3 78) s m args below meth c H locs 0 0 (MQ below (ctQ D cI cJ (wM cI o ad ivz arz) A rz) args s 0 0 A) (F0 m 61 ls []) := by
  intro l2 l3 iv ar rz ivz arz hm H locs ls hl hw
  have hx := C.1.1
  have hb := C.1.2.1
  unfold mX12_goOn_J61 at hm
  refine lv_iconst (v := (-1)) hx hb dX12_goOn_61 ci_m1 ?_
  refine lv_istore_n (lv' := [(1, .int (-1)), (0, .ref o), (2, .int l2), (3, .int l3)]) hx hb dX12_goOn_62 rfl hl (by decide) rfl (fun ls hl => ?_)
  refine lv_aload_n hx hb dX12_goOn_63 rfl (lv_at hl 1 rfl) ?_
  refine lv_iload_n hx hb dX12_goOn_64 rfl (lv_at hl 2 rfl) ?_
  refine lv_iload_n hx hb dX12_goOn_65 rfl (lv_at hl 3 rfl) ?_
  obtain ⟨r66, iv66, ar66, hc66, hm⟩ := ob_some hm
  refine g_calli (As := [.int l2, .int l3]) (rest := []) C hw (kX12_wantsMore hc66) mtX12_wantsMore lkX12_394 oM hl.1 rfl rfl (Nat.le_of_ble_eq_true rfl) ⟨Nat.le_of_ble_eq_true rfl, Nat.le_of_ble_eq_true rfl⟩ dX12_goOn_66 ⟨Nat.zero_le _, Nat.zero_le _⟩ (fun H locs hw => ?_)
  refine lv_if_ne (tgt := 102) hx hb dX12_goOn_69 (by decide) (fun hc => ?_) (fun hc => ?_)
  · have hm := it_f hc hm
    refine lv_goto (tgt := 2) hx hb dX12_goOn_102 (by decide) ?_
    exact hk2 _ _ _ _ _ _ hm _ _ _ (lv_sub hl [1, 0] rfl) hw
  · have hm := it_t hc hm
    refine lv_aload_n hx hb dX12_goOn_72 rfl (lv_at hl 1 rfl) ?_
    refine lv_iload_n hx hb dX12_goOn_73 rfl (lv_at hl 2 rfl) ?_
    refine lv_iload_n hx hb dX12_goOn_74 rfl (lv_at hl 3 rfl) ?_
    obtain ⟨r75, iv75, ar75, hc75, hm⟩ := ob_some hm
    refine g_calli (As := [.int l2, .int l3]) (rest := []) C hw (kX12_finish hc75) mtX12_finish lkX12_397 oM hl.1 rfl rfl (Nat.le_of_ble_eq_true rfl) ⟨Nat.le_of_ble_eq_true rfl, Nat.le_of_ble_eq_true rfl⟩ dX12_goOn_75 ⟨Nat.zero_le _, Nat.zero_le _⟩ (fun H locs hw => ?_)
    refine lv_istore_n (lv' := [(1, .int r75), (0, .ref o), (2, .int l2), (3, .int l3)]) hx hb dX12_goOn_78 rfl hl (by decide) rfl (fun ls hl => ?_)
    refine lv_aload_n hx hb dX12_goOn_79 rfl (lv_at hl 1 rfl) ?_
    refine g_get C hw gM_73 dX12_goOn_80 ?_
    refine lv_if_ge (tgt := 102) hx hb dX12_goOn_83 (by decide) (fun hc => ?_) (fun hc => ?_)
    · have hm := it_t hc hm
      refine lv_goto (tgt := 2) hx hb dX12_goOn_102 (by decide) ?_
      exact hk2 _ _ _ _ _ _ hm _ _ _ (lv_sub hl [1, 0] rfl) hw
    · have hm := it_f hc hm
      refine lv_aload_n hx hb dX12_goOn_86 rfl (lv_at hl 1 rfl) ?_
      refine g_get C hw gM_72 dX12_goOn_87 ?_
      refine lv_if_ne (tgt := 102) hx hb dX12_goOn_90 (by decide) (fun hc => ?_) (fun hc => ?_)
      · have hm := it_f hc hm
        refine lv_goto (tgt := 2) hx hb dX12_goOn_102 (by decide) ?_
        exact hk2 _ _ _ _ _ _ hm _ _ _ (lv_sub hl [1, 0] rfl) hw
      · have hm := it_t hc hm
        refine lv_aload_n hx hb dX12_goOn_93 rfl (lv_at hl 1 rfl) ?_
        refine g_get C hw gM_71 dX12_goOn_94 ?_
        refine lv_if_ne (tgt := 102) hx hb dX12_goOn_97 (by decide) (fun hc => ?_) (fun hc => ?_)
        · have hm := it_f hc hm
          refine lv_goto (tgt := 2) hx hb dX12_goOn_102 (by decide) ?_
          exact hk2 _ _ _ _ _ _ hm _ _ _ (lv_sub hl [1, 0] rfl) hw
        · have hm := it_t hc hm
          refine lv_iload_n hx hb dX12_goOn_100 rfl (lv_at hl 0 rfl) ?_
          cases hm
          exact g_iret C hw dX12_goOn_101
def mX12_goOn_L2 : Nat → Int32 → mI → mA → Option (Int32 × mI × mA)
  | 0, _, _, _ => none
  | n + 1, l1, iv, ar => if 0 ≤ (iv 73) then some ((-1), iv, ar) else if (iv 72) = 0 then if ((iv 71) - 1) < 0 ∨ 301 ≤ ((iv 71) - 1).toNatClampNeg then none else if l1 < 0 then mX12_goOn_J61 (mX12_goOn_L2 n) ((iv 71) - 1) (ar 66 ((iv 71) - 1).toNatClampNeg) iv ar else if ((iv 71) - 1) < 0 ∨ 301 ≤ ((iv 71) - 1).toNatClampNeg then none else if ((9 * ((iv 71) - 1)) + (ar 68 ((iv 71) - 1).toNatClampNeg)) < 0 ∨ 2709 ≤ ((9 * ((iv 71) - 1)) + (ar 68 ((iv 71) - 1).toNatClampNeg)).toNatClampNeg then none else if ((iv 71) - 1) < 0 ∨ 301 ≤ ((iv 71) - 1).toNatClampNeg then none else if ((iv 71) - 1) < 0 ∨ 301 ≤ ((iv 71) - 1).toNatClampNeg then none else mX12_goOn_J61 (mX12_goOn_L2 n) ((iv 71) - 1) (ar 66 ((iv 71) - 1).toNatClampNeg) iv (au (au ar 70 ((9 * ((iv 71) - 1)) + (ar 68 ((iv 71) - 1).toNatClampNeg)).toNatClampNeg l1) 68 ((iv 71) - 1).toNatClampNeg (((au ar 70 ((9 * ((iv 71) - 1)) + (ar 68 ((iv 71) - 1).toNatClampNeg)).toNatClampNeg l1) 68 ((iv 71) - 1).toNatClampNeg) + 1)) else some ((-1), iv, ar)
set_option maxRecDepth 100000 in
set_option maxHeartbeats 4000000 in
theorem wX12_goOn_L2 (C : mCx p s m args meth c RX12 cX12_goOn 4 (some .int) D cI cJ A) (n : Nat) : ∀ (l1 : Int32) (iv : mI) (ar : mA) (rz : Int32) (ivz : mI) (arz : mA), mX12_goOn_L2 n l1 iv ar = some (rz, ivz, arz) → ∀ (H : Heap) (locs : List Loc) (ls : Array Slot), lv_has ls 4 [(0, .ref o), (1, .int l1)] → inW D A s (wM cI o ad iv ar) H locs → W p l e (rmO 3 78) s m args below meth c H locs 0 0 (MQ below (ctQ D cI cJ (wM cI o ad ivz arz) A rz) args s 0 0 A) (F0 m 2 ls []) := by
  induction n with
  | zero =>
    intro l1 iv ar rz ivz arz hm H locs ls hl hw
    have hm : (none : Option (Int32 × mI × mA)) = some _ := hm
    cases hm
  | succ n ih =>
    intro l1 iv ar rz ivz arz hm H locs ls hl hw
    have hx := C.1.1
    have hb := C.1.2.1
    unfold mX12_goOn_L2 at hm
    refine lv_aload_n hx hb dX12_goOn_2 rfl (lv_at hl 0 rfl) ?_
    refine g_get C hw gM_73 dX12_goOn_3 ?_
    refine lv_if_ge (tgt := 105) hx hb dX12_goOn_6 (by decide) (fun hc => ?_) (fun hc => ?_)
    · have hm := it_t hc hm
      refine lv_iconst (v := (-1)) hx hb dX12_goOn_105 ci_m1 ?_
      cases hm
      exact g_iret C hw dX12_goOn_106
    · have hm := it_f hc hm
      refine lv_aload_n hx hb dX12_goOn_9 rfl (lv_at hl 0 rfl) ?_
      refine g_get C hw gM_72 dX12_goOn_10 ?_
      refine lv_if_ne (tgt := 105) hx hb dX12_goOn_13 (by decide) (fun hc => ?_) (fun hc => ?_)
      · have hm := it_f hc hm
        refine lv_iconst (v := (-1)) hx hb dX12_goOn_105 ci_m1 ?_
        cases hm
        exact g_iret C hw dX12_goOn_106
      · have hm := it_t hc hm
        refine lv_aload_n hx hb dX12_goOn_16 rfl (lv_at hl 0 rfl) ?_
        refine g_get C hw gM_71 dX12_goOn_17 ?_
        refine lv_iconst (v := 1) hx hb dX12_goOn_20 ci_1 ?_
        refine lv_isub hx hb dX12_goOn_21 ?_
        refine lv_istore_n (lv' := [(2, .int ((iv 71) - 1)), (0, .ref o), (1, .int l1)]) hx hb dX12_goOn_22 rfl hl (by decide) rfl (fun ls hl => ?_)
        refine lv_aload_n hx hb dX12_goOn_23 rfl (lv_at hl 1 rfl) ?_
        refine g_get C hw gM_66 dX12_goOn_24 ?_
        refine lv_iload_n hx hb dX12_goOn_27 rfl (lv_at hl 0 rfl) ?_
        obtain ⟨hi, hm⟩ := it_a hm
        refine g_ald C hw aM_66 hi dX12_goOn_28 ?_
        refine lv_istore_n (lv' := [(3, .int (ar 66 ((iv 71) - 1).toNatClampNeg)), (2, .int ((iv 71) - 1)), (0, .ref o), (1, .int l1)]) hx hb dX12_goOn_29 rfl hl (by decide) rfl (fun ls hl => ?_)
        refine lv_iload_n hx hb dX12_goOn_30 rfl (lv_at hl 3 rfl) ?_
        refine lv_if_lt (tgt := 61) hx hb dX12_goOn_31 (by decide) (fun hc => ?_) (fun hc => ?_)
        · have hm := it_t hc hm
          exact wX12_goOn_J61 C ih _ _ _ _ _ _ _ hm _ _ _ (lv_sub hl [2, 1, 0] rfl) hw
        · have hm := it_f hc hm
          refine lv_aload_n hx hb dX12_goOn_34 rfl (lv_at hl 2 rfl) ?_
          refine g_get C hw gM_70 dX12_goOn_35 ?_
          refine lv_bipush (v := 9) hx hb dX12_goOn_38 cb_9 ?_
          refine lv_iload_n hx hb dX12_goOn_40 rfl (lv_at hl 1 rfl) ?_
          refine lv_imul hx hb dX12_goOn_41 ?_
          refine lv_aload_n hx hb dX12_goOn_42 rfl (lv_at hl 2 rfl) ?_
          refine g_get C hw gM_68 dX12_goOn_43 ?_
          refine lv_iload_n hx hb dX12_goOn_46 rfl (lv_at hl 1 rfl) ?_
          obtain ⟨hi, hm⟩ := it_a hm
          refine g_ald C hw aM_68 hi dX12_goOn_47 ?_
          refine lv_iadd hx hb dX12_goOn_48 ?_
          refine lv_iload_n hx hb dX12_goOn_49 rfl (lv_at hl 3 rfl) ?_
          obtain ⟨hi, hm⟩ := it_a hm
          refine g_ast C hw sM_70 hi dX12_goOn_50 (fun H locs hw => ?_)
          refine lv_aload_n hx hb dX12_goOn_51 rfl (lv_at hl 2 rfl) ?_
          refine g_get C hw gM_68 dX12_goOn_52 ?_
          refine lv_iload_n hx hb dX12_goOn_55 rfl (lv_at hl 1 rfl) ?_
          refine lv_dup2_11 hx hb dX12_goOn_56 rfl rfl ?_
          obtain ⟨hi, hm⟩ := it_a hm
          refine g_ald C hw aM_68 hi dX12_goOn_57 ?_
          refine lv_iconst (v := 1) hx hb dX12_goOn_58 ci_1 ?_
          refine lv_iadd hx hb dX12_goOn_59 ?_
          obtain ⟨hi, hm⟩ := it_a hm
          refine g_ast C hw sM_68 hi dX12_goOn_60 (fun H locs hw => ?_)
          exact wX12_goOn_J61 C ih _ _ _ _ _ _ _ hm _ _ _ (lv_sub hl [2, 1, 0] rfl) hw
def mX12_goOn  (iv : mI) (ar : mA) : Option (Int32 × mI × mA) := mX12_goOn_L2 bigF (-1) iv ar
set_option maxRecDepth 100000 in
set_option maxHeartbeats 4000000 in
theorem kX12_goOn {iv ivz : mI} {ar arz : mA} {rz : Int32} (hm : mX12_goOn iv ar = some (rz, ivz, arz)) : Ct l D cI cJ yX12_goOn cX12_goOn 4 (some .int) 3 78 [.ref o] (wM cI o ad iv ar) (wM cI o ad ivz arz) rz := by
  intro sz
  refine ct_of (by decide) (Nat.le_of_ble_eq_true rfl) ?_
  intro p e s m args below meth c C hw ls hl
  have hl : lv_has ls 4 [(0, .ref o)] := hl
  have hx := C.1.1
  have hb := C.1.2.1
  unfold mX12_goOn at hm
  refine lv_iconst (v := (-1)) hx hb dX12_goOn_0 ci_m1 ?_
  refine lv_istore_n (lv' := [(1, .int (-1)), (0, .ref o)]) hx hb dX12_goOn_1 rfl hl (by decide) rfl (fun ls hl => ?_)
  exact wX12_goOn_L2 C bigF _ _ _ _ _ _ hm _ _ _ (lv_sub hl [1, 0] rfl) hw
def mX12_run_J136 (l2 : Int32) (iv : mI) (ar : mA) : Option (Int32 × mI × mA) := if (iv 72) = 0 then some (l2, iv, ar) else some ((iv 72), iv, ar)
set_option maxRecDepth 100000 in
set_option maxHeartbeats 4000000 in
theorem wX12_run_J136 (C : mCx p s m args meth c RX12 cX12_run 3 (some .int) D cI cJ A) : ∀ (l2 : Int32) (iv : mI) (ar : mA) (rz : Int32) (ivz : mI) (arz : mA), mX12_run_J136 l2 iv ar = some (rz, ivz, arz) → ∀ (H : Heap) (locs : List Loc) (ls : Array Slot), lv_has ls 3 [(0, .ref o), (2, .int l2)] → inW D A s (wM cI o ad iv ar) H locs → W p l e (rmO 4 101) s m args below meth c H locs 0 0 (MQ below (ctQ D cI cJ (wM cI o ad ivz arz) A rz) args s 0 0 A) (F0 m 136 ls []) := by
  intro l2 iv ar rz ivz arz hm H locs ls hl hw
  have hx := C.1.1
  have hb := C.1.2.1
  unfold mX12_run_J136 at hm
  refine lv_aload_n hx hb dX12_run_136 rfl (lv_at hl 0 rfl) ?_
  refine g_get C hw gM_72 dX12_run_137 ?_
  refine lv_if_eq (tgt := 150) hx hb dX12_run_140 (by decide) (fun hc => ?_) (fun hc => ?_)
  · have hm := it_t hc hm
    refine lv_iload_n hx hb dX12_run_150 rfl (lv_at hl 1 rfl) ?_
    cases hm
    exact g_iret C hw dX12_run_151
  · have hm := it_f hc hm
    refine lv_aload_n hx hb dX12_run_143 rfl (lv_at hl 0 rfl) ?_
    refine g_get C hw gM_72 dX12_run_144 ?_
    refine lv_goto (tgt := 151) hx hb dX12_run_147 (by decide) ?_
    cases hm
    exact g_iret C hw dX12_run_151
def mX12_run_L63 : Nat → Int32 → Int32 → mI → mA → Option (Int32 × mI × mA)
  | 0, _, _, _, _ => none
  | n + 1, l1, l2, iv, ar => if 0 ≤ l2 then mX12_run_J136 l2 iv ar else if (iv 72) = 0 then if (iv 57) = l1 then some ((-1), iv, ar) else if (iv 71) = 300 then some ((-16), iv, ar) else ob (mX12_begin ((va_up iv 57 ((iv 57) + 1)) 73) ((va_up iv 57 ((iv 57) + 1)) 74) ((va_up iv 57 ((iv 57) + 1)) 75) (va_up iv 57 ((iv 57) + 1)) ar) (fun r120 iv120 ar120 => ob (mX12_goOn (va_up iv120 73 (-1)) ar120) (fun r129 iv129 ar129 => mX12_run_L63 n l1 r129 iv129 ar129)) else mX12_run_J136 l2 iv ar
set_option maxRecDepth 100000 in
set_option maxHeartbeats 4000000 in
theorem wX12_run_L63 (C : mCx p s m args meth c RX12 cX12_run 3 (some .int) D cI cJ A) (n : Nat) : ∀ (l1 : Int32) (l2 : Int32) (iv : mI) (ar : mA) (rz : Int32) (ivz : mI) (arz : mA), mX12_run_L63 n l1 l2 iv ar = some (rz, ivz, arz) → ∀ (H : Heap) (locs : List Loc) (ls : Array Slot), lv_has ls 3 [(0, .ref o), (1, .int l1), (2, .int l2)] → inW D A s (wM cI o ad iv ar) H locs → W p l e (rmO 4 101) s m args below meth c H locs 0 0 (MQ below (ctQ D cI cJ (wM cI o ad ivz arz) A rz) args s 0 0 A) (F0 m 63 ls []) := by
  induction n with
  | zero =>
    intro l1 l2 iv ar rz ivz arz hm H locs ls hl hw
    have hm : (none : Option (Int32 × mI × mA)) = some _ := hm
    cases hm
  | succ n ih =>
    intro l1 l2 iv ar rz ivz arz hm H locs ls hl hw
    have hx := C.1.1
    have hb := C.1.2.1
    unfold mX12_run_L63 at hm
    refine lv_iload_n hx hb dX12_run_63 rfl (lv_at hl 2 rfl) ?_
    refine lv_if_ge (tgt := 136) hx hb dX12_run_64 (by decide) (fun hc => ?_) (fun hc => ?_)
    · have hm := it_t hc hm
      exact wX12_run_J136 C _ _ _ _ _ _ hm _ _ _ (lv_sub hl [0, 2] rfl) hw
    · have hm := it_f hc hm
      refine lv_aload_n hx hb dX12_run_67 rfl (lv_at hl 0 rfl) ?_
      refine g_get C hw gM_72 dX12_run_68 ?_
      refine lv_if_ne (tgt := 136) hx hb dX12_run_71 (by decide) (fun hc => ?_) (fun hc => ?_)
      · have hm := it_f hc hm
        exact wX12_run_J136 C _ _ _ _ _ _ hm _ _ _ (lv_sub hl [0, 2] rfl) hw
      · have hm := it_t hc hm
        refine lv_aload_n hx hb dX12_run_74 rfl (lv_at hl 0 rfl) ?_
        refine g_get C hw gM_57 dX12_run_75 ?_
        refine lv_iload_n hx hb dX12_run_78 rfl (lv_at hl 1 rfl) ?_
        refine lv_icmp_ne (tgt := 84) hx hb dX12_run_79 (by decide) (fun hc => ?_) (fun hc => ?_)
        · have hm := it_f hc hm
          refine lv_aload_n hx hb dX12_run_84 rfl (lv_at hl 0 rfl) ?_
          refine g_get C hw gM_71 dX12_run_85 ?_
          refine lv_sipush (v := 300) hx hb dX12_run_88 cs_300 ?_
          refine lv_icmp_ne (tgt := 97) hx hb dX12_run_91 (by decide) (fun hc => ?_) (fun hc => ?_)
          · have hm := it_f hc hm
            refine lv_aload_n hx hb dX12_run_97 rfl (lv_at hl 0 rfl) ?_
            refine lv_dup hx hb dX12_run_98 rfl ?_
            refine g_get C hw gM_57 dX12_run_99 ?_
            refine lv_iconst (v := 1) hx hb dX12_run_102 ci_1 ?_
            refine lv_iadd hx hb dX12_run_103 ?_
            refine g_put C hw pM_57 dX12_run_104 (fun H locs hw => ?_)
            refine lv_aload_n hx hb dX12_run_107 rfl (lv_at hl 0 rfl) ?_
            refine lv_aload_n hx hb dX12_run_108 rfl (lv_at hl 0 rfl) ?_
            refine g_get C hw gM_73 dX12_run_109 ?_
            refine lv_aload_n hx hb dX12_run_112 rfl (lv_at hl 0 rfl) ?_
            refine g_get C hw gM_74 dX12_run_113 ?_
            refine lv_aload_n hx hb dX12_run_116 rfl (lv_at hl 0 rfl) ?_
            refine g_get C hw gM_75 dX12_run_117 ?_
            obtain ⟨r120, iv120, ar120, hc120, hm⟩ := ob_some hm
            refine g_callv (As := [.int ((va_up iv 57 ((iv 57) + 1)) 73), .int ((va_up iv 57 ((iv 57) + 1)) 74), .int ((va_up iv 57 ((iv 57) + 1)) 75)]) (rest := []) C hw (kX12_begin hc120) mtX12_begin lkX12_388 oM hl.1 rfl rfl (Nat.le_of_ble_eq_true rfl) ⟨Nat.le_of_ble_eq_true rfl, Nat.le_of_ble_eq_true rfl⟩ dX12_run_120 ⟨Nat.zero_le _, Nat.zero_le _⟩ (fun H locs hw => ?_)
            refine lv_aload_n hx hb dX12_run_123 rfl (lv_at hl 0 rfl) ?_
            refine lv_iconst (v := (-1)) hx hb dX12_run_124 ci_m1 ?_
            refine g_put C hw pM_73 dX12_run_125 (fun H locs hw => ?_)
            refine lv_aload_n hx hb dX12_run_128 rfl (lv_at hl 0 rfl) ?_
            obtain ⟨r129, iv129, ar129, hc129, hm⟩ := ob_some hm
            refine g_calli (As := []) (rest := []) C hw (kX12_goOn hc129) mtX12_goOn lkX12_391 oM hl.1 rfl rfl (Nat.le_of_ble_eq_true rfl) ⟨Nat.le_of_ble_eq_true rfl, Nat.le_of_ble_eq_true rfl⟩ dX12_run_129 ⟨Nat.zero_le _, Nat.zero_le _⟩ (fun H locs hw => ?_)
            refine lv_istore_n (lv' := [(2, .int r129), (0, .ref o), (1, .int l1)]) hx hb dX12_run_132 rfl hl (by decide) rfl (fun ls hl => ?_)
            refine lv_goto (tgt := 63) hx hb dX12_run_133 (by decide) ?_
            exact ih _ _ _ _ _ _ _ hm _ _ _ (lv_sub hl [1, 2, 0] rfl) hw
          · have hm := it_t hc hm
            refine lv_bipush (v := (-16)) hx hb dX12_run_94 cb_m16 ?_
            cases hm
            exact g_iret C hw dX12_run_96
        · have hm := it_t hc hm
          refine lv_iconst (v := (-1)) hx hb dX12_run_82 ci_m1 ?_
          cases hm
          exact g_iret C hw dX12_run_83
def mX12_run (a1 : Int32) (iv : mI) (ar : mA) : Option (Int32 × mI × mA) := if (iv 30) = 0 then some ((-2), iv, ar) else ob (mX12_in a1 0 20000 iv ar) (fun r12 iv12 ar12 => if r12 = 0 then some ((-2), iv12, ar12) else mX12_run_L63 bigF a1 (-1) (va_up (va_up (va_up (va_up (va_up (va_up (va_up (va_up iv12 56 0) 57 0) 65 0) 71 0) 72 0) 73 0) 74 (-1)) 75 (-1)) ar12)
set_option maxRecDepth 100000 in
set_option maxHeartbeats 4000000 in
theorem kX12_run {a1 : Int32} {iv ivz : mI} {ar arz : mA} {rz : Int32} (hm : mX12_run a1 iv ar = some (rz, ivz, arz)) : Ct l D cI cJ yX12_run cX12_run 3 (some .int) 4 101 [.ref o, .int a1] (wM cI o ad iv ar) (wM cI o ad ivz arz) rz := by
  intro sz
  refine ct_of (by decide) (Nat.le_of_ble_eq_true rfl) ?_
  intro p e s m args below meth c C hw ls hl
  have hl : lv_has ls 3 [(0, .ref o), (1, .int a1)] := hl
  have hx := C.1.1
  have hb := C.1.2.1
  unfold mX12_run at hm
  refine lv_aload_n hx hb dX12_run_0 rfl (lv_at hl 0 rfl) ?_
  refine g_get C hw gM_30 dX12_run_1 ?_
  refine lv_if_eq (tgt := 18) hx hb dX12_run_4 (by decide) (fun hc => ?_) (fun hc => ?_)
  · have hm := it_t hc hm
    refine lv_bipush (v := (-2)) hx hb dX12_run_18 cb_m2 ?_
    cases hm
    exact g_iret C hw dX12_run_20
  · have hm := it_f hc hm
    refine lv_iload_n hx hb dX12_run_7 rfl (lv_at hl 1 rfl) ?_
    refine lv_iconst (v := 0) hx hb dX12_run_8 ci_0 ?_
    refine lv_sipush (v := 20000) hx hb dX12_run_9 cs_20000 ?_
    obtain ⟨r12, iv12, ar12, hc12, hm⟩ := ob_some hm
    refine g_calls (As := [.int a1, .int 0, .int 20000]) (rest := []) C hw (kX12_in hc12) stX12_in lkX12_184 hl.1 rfl rfl (Nat.le_of_ble_eq_true rfl) ⟨Nat.le_of_ble_eq_true rfl, Nat.le_of_ble_eq_true rfl⟩ dX12_run_12 ⟨Nat.zero_le _, Nat.zero_le _⟩ (fun H locs hw => ?_)
    refine lv_if_ne (tgt := 21) hx hb dX12_run_15 (by decide) (fun hc => ?_) (fun hc => ?_)
    · have hm := it_f hc hm
      refine lv_aload_n hx hb dX12_run_21 rfl (lv_at hl 0 rfl) ?_
      refine lv_iconst (v := 0) hx hb dX12_run_22 ci_0 ?_
      refine g_put C hw pM_56 dX12_run_23 (fun H locs hw => ?_)
      refine lv_aload_n hx hb dX12_run_26 rfl (lv_at hl 0 rfl) ?_
      refine lv_iconst (v := 0) hx hb dX12_run_27 ci_0 ?_
      refine g_put C hw pM_57 dX12_run_28 (fun H locs hw => ?_)
      refine lv_aload_n hx hb dX12_run_31 rfl (lv_at hl 0 rfl) ?_
      refine lv_iconst (v := 0) hx hb dX12_run_32 ci_0 ?_
      refine g_put C hw pM_65 dX12_run_33 (fun H locs hw => ?_)
      refine lv_aload_n hx hb dX12_run_36 rfl (lv_at hl 0 rfl) ?_
      refine lv_iconst (v := 0) hx hb dX12_run_37 ci_0 ?_
      refine g_put C hw pM_71 dX12_run_38 (fun H locs hw => ?_)
      refine lv_aload_n hx hb dX12_run_41 rfl (lv_at hl 0 rfl) ?_
      refine lv_iconst (v := 0) hx hb dX12_run_42 ci_0 ?_
      refine g_put C hw pM_72 dX12_run_43 (fun H locs hw => ?_)
      refine lv_aload_n hx hb dX12_run_46 rfl (lv_at hl 0 rfl) ?_
      refine lv_iconst (v := 0) hx hb dX12_run_47 ci_0 ?_
      refine g_put C hw pM_73 dX12_run_48 (fun H locs hw => ?_)
      refine lv_aload_n hx hb dX12_run_51 rfl (lv_at hl 0 rfl) ?_
      refine lv_iconst (v := (-1)) hx hb dX12_run_52 ci_m1 ?_
      refine g_put C hw pM_74 dX12_run_53 (fun H locs hw => ?_)
      refine lv_aload_n hx hb dX12_run_56 rfl (lv_at hl 0 rfl) ?_
      refine lv_iconst (v := (-1)) hx hb dX12_run_57 ci_m1 ?_
      refine g_put C hw pM_75 dX12_run_58 (fun H locs hw => ?_)
      refine lv_iconst (v := (-1)) hx hb dX12_run_61 ci_m1 ?_
      refine lv_istore_n (lv' := [(2, .int (-1)), (0, .ref o), (1, .int a1)]) hx hb dX12_run_62 rfl hl (by decide) rfl (fun ls hl => ?_)
      exact wX12_run_L63 C bigF _ _ _ _ _ _ _ hm _ _ _ (lv_sub hl [1, 2, 0] rfl) hw
    · have hm := it_t hc hm
      refine lv_bipush (v := (-2)) hx hb dX12_run_18 cb_m2 ?_
      cases hm
      exact g_iret C hw dX12_run_20
def mX12_value (a1 : Int32) (a2 : Int32) (iv : mI) (ar : mA) : Option (Int32 × mI × mA) := if 0 ≤ a2 then ob (mX12_in a1 0 ((iv 56) - 1) iv ar) (fun r15 iv15 ar15 => if r15 = 0 then some ((-1), iv15, ar15) else if a2 = 0 then if a1 < 0 ∨ 2000 ≤ a1.toNatClampNeg then none else some ((ar15 58 a1.toNatClampNeg), iv15, ar15) else if a2 = 1 then if a1 < 0 ∨ 2000 ≤ a1.toNatClampNeg then none else some ((ar15 59 a1.toNatClampNeg), iv15, ar15) else if 8 ≤ (a2 - 2) then some ((-1), iv15, ar15) else if (((8 * a1) + a2) - 2) < 0 ∨ 16000 ≤ (((8 * a1) + a2) - 2).toNatClampNeg then none else some ((ar15 60 (((8 * a1) + a2) - 2).toNatClampNeg), iv15, ar15)) else some ((-2), iv, ar)
set_option maxRecDepth 100000 in
set_option maxHeartbeats 4000000 in
theorem kX12_value {a1 a2 : Int32} {iv ivz : mI} {ar arz : mA} {rz : Int32} (hm : mX12_value a1 a2 iv ar = some (rz, ivz, arz)) : Ct l D cI cJ yX12_value cX12_value 3 (some .int) 1 22 [.ref o, .int a1, .int a2] (wM cI o ad iv ar) (wM cI o ad ivz arz) rz := by
  intro sz
  refine ct_of (by decide) (Nat.le_of_ble_eq_true rfl) ?_
  intro p e s m args below meth c C hw ls hl
  have hl : lv_has ls 3 [(0, .ref o), (1, .int a1), (2, .int a2)] := hl
  have hx := C.1.1
  have hb := C.1.2.1
  unfold mX12_value at hm
  refine lv_iload_n hx hb dX12_value_0 rfl (lv_at hl 2 rfl) ?_
  refine lv_if_ge (tgt := 7) hx hb dX12_value_1 (by decide) (fun hc => ?_) (fun hc => ?_)
  · have hm := it_t hc hm
    refine lv_iload_n hx hb dX12_value_7 rfl (lv_at hl 1 rfl) ?_
    refine lv_iconst (v := 0) hx hb dX12_value_8 ci_0 ?_
    refine lv_aload_n hx hb dX12_value_9 rfl (lv_at hl 0 rfl) ?_
    refine g_get C hw gM_56 dX12_value_10 ?_
    refine lv_iconst (v := 1) hx hb dX12_value_13 ci_1 ?_
    refine lv_isub hx hb dX12_value_14 ?_
    obtain ⟨r15, iv15, ar15, hc15, hm⟩ := ob_some hm
    refine g_calls (As := [.int a1, .int 0, .int ((iv 56) - 1)]) (rest := []) C hw (kX12_in hc15) stX12_in lkX12_184 hl.1 rfl rfl (Nat.le_of_ble_eq_true rfl) ⟨Nat.le_of_ble_eq_true rfl, Nat.le_of_ble_eq_true rfl⟩ dX12_value_15 ⟨Nat.zero_le _, Nat.zero_le _⟩ (fun H locs hw => ?_)
    refine lv_if_ne (tgt := 23) hx hb dX12_value_18 (by decide) (fun hc => ?_) (fun hc => ?_)
    · have hm := it_f hc hm
      refine lv_iload_n hx hb dX12_value_23 rfl (lv_at hl 2 rfl) ?_
      refine lv_if_ne (tgt := 36) hx hb dX12_value_24 (by decide) (fun hc => ?_) (fun hc => ?_)
      · have hm := it_f hc hm
        refine lv_iload_n hx hb dX12_value_36 rfl (lv_at hl 2 rfl) ?_
        refine lv_iconst (v := 1) hx hb dX12_value_37 ci_1 ?_
        refine lv_icmp_ne (tgt := 50) hx hb dX12_value_38 (by decide) (fun hc => ?_) (fun hc => ?_)
        · have hm := it_f hc hm
          refine lv_iload_n hx hb dX12_value_50 rfl (lv_at hl 2 rfl) ?_
          refine lv_iconst (v := 2) hx hb dX12_value_51 ci_2 ?_
          refine lv_isub hx hb dX12_value_52 ?_
          refine lv_bipush (v := 8) hx hb dX12_value_53 cb_8 ?_
          refine lv_icmp_ge (tgt := 74) hx hb dX12_value_55 (by decide) (fun hc => ?_) (fun hc => ?_)
          · have hm := it_t hc hm
            refine lv_iconst (v := (-1)) hx hb dX12_value_74 ci_m1 ?_
            cases hm
            exact g_iret C hw dX12_value_75
          · have hm := it_f hc hm
            refine lv_aload_n hx hb dX12_value_58 rfl (lv_at hl 0 rfl) ?_
            refine g_get C hw gM_60 dX12_value_59 ?_
            refine lv_bipush (v := 8) hx hb dX12_value_62 cb_8 ?_
            refine lv_iload_n hx hb dX12_value_64 rfl (lv_at hl 1 rfl) ?_
            refine lv_imul hx hb dX12_value_65 ?_
            refine lv_iload_n hx hb dX12_value_66 rfl (lv_at hl 2 rfl) ?_
            refine lv_iadd hx hb dX12_value_67 ?_
            refine lv_iconst (v := 2) hx hb dX12_value_68 ci_2 ?_
            refine lv_isub hx hb dX12_value_69 ?_
            obtain ⟨hi, hm⟩ := it_a hm
            refine g_ald C hw aM_60 hi dX12_value_70 ?_
            refine lv_goto (tgt := 75) hx hb dX12_value_71 (by decide) ?_
            cases hm
            exact g_iret C hw dX12_value_75
        · have hm := it_t hc hm
          refine lv_aload_n hx hb dX12_value_41 rfl (lv_at hl 0 rfl) ?_
          refine g_get C hw gM_59 dX12_value_42 ?_
          refine lv_iload_n hx hb dX12_value_45 rfl (lv_at hl 1 rfl) ?_
          obtain ⟨hi, hm⟩ := it_a hm
          refine g_ald C hw aM_59 hi dX12_value_46 ?_
          refine lv_goto (tgt := 75) hx hb dX12_value_47 (by decide) ?_
          cases hm
          exact g_iret C hw dX12_value_75
      · have hm := it_t hc hm
        refine lv_aload_n hx hb dX12_value_27 rfl (lv_at hl 0 rfl) ?_
        refine g_get C hw gM_58 dX12_value_28 ?_
        refine lv_iload_n hx hb dX12_value_31 rfl (lv_at hl 1 rfl) ?_
        obtain ⟨hi, hm⟩ := it_a hm
        refine g_ald C hw aM_58 hi dX12_value_32 ?_
        refine lv_goto (tgt := 75) hx hb dX12_value_33 (by decide) ?_
        cases hm
        exact g_iret C hw dX12_value_75
    · have hm := it_t hc hm
      refine lv_iconst (v := (-1)) hx hb dX12_value_21 ci_m1 ?_
      cases hm
      exact g_iret C hw dX12_value_22
  · have hm := it_f hc hm
    refine lv_bipush (v := (-2)) hx hb dX12_value_4 cb_m2 ?_
    cases hm
    exact g_iret C hw dX12_value_6
def mX12_count (a1 : Int32) (iv : mI) (ar : mA) : Option (Int32 × mI × mA) := if a1 = 0 then some ((iv 3), iv, ar) else if a1 = 1 then some ((iv 0), iv, ar) else if a1 = 2 then some ((iv 56), iv, ar) else if a1 = 3 then some ((iv 57), iv, ar) else if a1 = 4 then if (iv 30) = 0 then some (0, iv, ar) else some (1, iv, ar) else some ((-2), iv, ar)
set_option maxRecDepth 100000 in
set_option maxHeartbeats 4000000 in
theorem kX12_count {a1 : Int32} {iv ivz : mI} {ar arz : mA} {rz : Int32} (hm : mX12_count a1 iv ar = some (rz, ivz, arz)) : Ct l D cI cJ yX12_count cX12_count 2 (some .int) 0 0 [.ref o, .int a1] (wM cI o ad iv ar) (wM cI o ad ivz arz) rz := by
  intro sz
  refine ct_of (by decide) (Nat.le_of_ble_eq_true rfl) ?_
  intro p e s m args below meth c C hw ls hl
  have hl : lv_has ls 2 [(0, .ref o), (1, .int a1)] := hl
  have hx := C.1.1
  have hb := C.1.2.1
  unfold mX12_count at hm
  refine lv_iload_n hx hb dX12_count_0 rfl (lv_at hl 1 rfl) ?_
  refine br_by (c := a1 = 0) (fun hc => ?_) (fun hc0 => ?_)
  · have hm := it_t hc hm
    refine lv_tableIn (off := 35) (tgt := 36) hx hb dX12_count_1 (by rw [hc]; decide) (by rw [hc]; decide) (by rw [hc]; rfl) (by decide) ?_
    refine lv_aload_n hx hb dX12_count_36 rfl (lv_at hl 0 rfl) ?_
    refine g_get C hw gM_3 dX12_count_37 ?_
    cases hm
    exact g_iret C hw dX12_count_40
  · have hm := it_f hc0 hm
    refine br_by (c := a1 = 1) (fun hc => ?_) (fun hc1 => ?_)
    · have hm := it_t hc hm
      refine lv_tableIn (off := 40) (tgt := 41) hx hb dX12_count_1 (by rw [hc]; decide) (by rw [hc]; decide) (by rw [hc]; rfl) (by decide) ?_
      refine lv_aload_n hx hb dX12_count_41 rfl (lv_at hl 0 rfl) ?_
      refine g_get C hw gM_0 dX12_count_42 ?_
      cases hm
      exact g_iret C hw dX12_count_45
    · have hm := it_f hc1 hm
      refine br_by (c := a1 = 2) (fun hc => ?_) (fun hc2 => ?_)
      · have hm := it_t hc hm
        refine lv_tableIn (off := 45) (tgt := 46) hx hb dX12_count_1 (by rw [hc]; decide) (by rw [hc]; decide) (by rw [hc]; rfl) (by decide) ?_
        refine lv_aload_n hx hb dX12_count_46 rfl (lv_at hl 0 rfl) ?_
        refine g_get C hw gM_56 dX12_count_47 ?_
        cases hm
        exact g_iret C hw dX12_count_50
      · have hm := it_f hc2 hm
        refine br_by (c := a1 = 3) (fun hc => ?_) (fun hc3 => ?_)
        · have hm := it_t hc hm
          refine lv_tableIn (off := 50) (tgt := 51) hx hb dX12_count_1 (by rw [hc]; decide) (by rw [hc]; decide) (by rw [hc]; rfl) (by decide) ?_
          refine lv_aload_n hx hb dX12_count_51 rfl (lv_at hl 0 rfl) ?_
          refine g_get C hw gM_57 dX12_count_52 ?_
          cases hm
          exact g_iret C hw dX12_count_55
        · have hm := it_f hc3 hm
          refine br_by (c := a1 = 4) (fun hc => ?_) (fun hc4 => ?_)
          · have hm := it_t hc hm
            refine lv_tableIn (off := 55) (tgt := 56) hx hb dX12_count_1 (by rw [hc]; decide) (by rw [hc]; decide) (by rw [hc]; rfl) (by decide) ?_
            refine lv_aload_n hx hb dX12_count_56 rfl (lv_at hl 0 rfl) ?_
            refine g_get C hw gM_30 dX12_count_57 ?_
            refine lv_if_eq (tgt := 67) hx hb dX12_count_60 (by decide) (fun hc => ?_) (fun hc => ?_)
            · have hm := it_t hc hm
              refine lv_iconst (v := 0) hx hb dX12_count_67 ci_0 ?_
              cases hm
              exact g_iret C hw dX12_count_68
            · have hm := it_f hc hm
              refine lv_iconst (v := 1) hx hb dX12_count_63 ci_1 ?_
              refine lv_goto (tgt := 68) hx hb dX12_count_64 (by decide) ?_
              cases hm
              exact g_iret C hw dX12_count_68
          · have hm := it_f hc4 hm
            have ho : (a1).toInt < 0 ∨ 4 < (a1).toInt := by
              have ehc0 := sw_ne (n := 0) hc0 (by decide)
              have ehc1 := sw_ne (n := 1) hc1 (by decide)
              have ehc2 := sw_ne (n := 2) hc2 (by decide)
              have ehc3 := sw_ne (n := 3) hc3 (by decide)
              have ehc4 := sw_ne (n := 4) hc4 (by decide)
              omega
            refine lv_tableOut (tgt := 69) hx hb dX12_count_1 ho (by decide) ?_
            refine lv_bipush (v := (-2)) hx hb dX12_count_69 cb_m2 ?_
            cases hm
            exact g_iret C hw dX12_count_71
end
