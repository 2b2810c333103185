theorem in_list {ws : List Cond} (ps : List Nat) (hp : ws = ps.filterMap (fun i => lw_tbl[i]?)) (h : ws.all goodWord = true) : ∀ w ∈ ws, w ∈ gtb := by
  intro w hw
  have h1 := List.all_eq_true.mp h w hw
  rw [hp] at hw
  obtain ⟨i, -, hi⟩ := List.mem_filterMap.mp hw
  exact in_gtb i hi h1
theorem ii_ {x v : Int32} {n : Int} (h : Int32.ofInt n = v) : x + Int32.ofInt n = x + v := by rw [h]
theorem it_z {α : Type} {c : Prop} [Decidable c] {a : Option α} {z : α} (e : (if c then a else none) = some z) : c ∧ a = some z := by
  by_cases h : c
  · rw [if_pos h] at e; exact ⟨h, e⟩
  · rw [if_neg h] at e; cases e
theorem br_by {c G : Prop} (t : c → G) (f : ¬ c → G) : G := Classical.byCases t f
/-- an array's place set -/
def au (ar : mA) (k i : Nat) (x : Int32) : mA := va_up ar k (upd (ar k) i x)
/-- fuel for every loop -/
def bigF : Nat := 1000000
theorem sw_ne {x k : Int32} {n : Int} (h : ¬ x = k) (hk : k.toInt = n) : ¬ x.toInt = n := fun e => h (Int32.toInt_inj.mp (e.trans hk.symm))
theorem cb_m16 : (Int8.ofInt (-16)).toInt32 = (-16) := by decide +kernel
theorem cb_m15 : (Int8.ofInt (-15)).toInt32 = (-15) := by decide +kernel
theorem cb_m14 : (Int8.ofInt (-14)).toInt32 = (-14) := by decide +kernel
theorem cb_m13 : (Int8.ofInt (-13)).toInt32 = (-13) := by decide +kernel
theorem cb_m12 : (Int8.ofInt (-12)).toInt32 = (-12) := by decide +kernel
theorem cb_m11 : (Int8.ofInt (-11)).toInt32 = (-11) := by decide +kernel
theorem cb_m3 : (Int8.ofInt (-3)).toInt32 = (-3) := by decide +kernel
theorem cb_m2 : (Int8.ofInt (-2)).toInt32 = (-2) := by decide +kernel
theorem cb_6 : (Int8.ofInt 6).toInt32 = 6 := by decide +kernel
theorem cb_7 : (Int8.ofInt 7).toInt32 = 7 := by decide +kernel
theorem cb_8 : (Int8.ofInt 8).toInt32 = 8 := by decide +kernel
theorem cb_9 : (Int8.ofInt 9).toInt32 = 9 := by decide +kernel
theorem cb_20 : (Int8.ofInt 20).toInt32 = 20 := by decide +kernel
theorem cb_21 : (Int8.ofInt 21).toInt32 = 21 := by decide +kernel
theorem cb_24 : (Int8.ofInt 24).toInt32 = 24 := by decide +kernel
theorem cb_26 : (Int8.ofInt 26).toInt32 = 26 := by decide +kernel
theorem cb_28 : (Int8.ofInt 28).toInt32 = 28 := by decide +kernel
theorem cb_29 : (Int8.ofInt 29).toInt32 = 29 := by decide +kernel
theorem cb_32 : (Int8.ofInt 32).toInt32 = 32 := by decide +kernel
theorem cb_33 : (Int8.ofInt 33).toInt32 = 33 := by decide +kernel
theorem ci_m1 : Int32.ofInt (-1) = (-1) := by decide +kernel
theorem ci_0 : Int32.ofInt 0 = 0 := by decide +kernel
theorem ci_1 : Int32.ofInt 1 = 1 := by decide +kernel
theorem ci_2 : Int32.ofInt 2 = 2 := by decide +kernel
theorem ci_3 : Int32.ofInt 3 = 3 := by decide +kernel
theorem ci_4 : Int32.ofInt 4 = 4 := by decide +kernel
theorem ci_5 : Int32.ofInt 5 = 5 := by decide +kernel
theorem cs_200 : (Int16.ofInt 200).toInt32 = 200 := by decide +kernel
theorem cs_300 : (Int16.ofInt 300).toInt32 = 300 := by decide +kernel
theorem cs_400 : (Int16.ofInt 400).toInt32 = 400 := by decide +kernel
theorem cs_2000 : (Int16.ofInt 2000).toInt32 = 2000 := by decide +kernel
theorem cs_20000 : (Int16.ofInt 20000).toInt32 = 20000 := by decide +kernel
/-- the reference object: its fields, and with its arrays its world -/
def fM (ad : Nat → Nat) (iv : mI) : List Value := [.int (iv 0), .ref (ad 1), .int (iv 2), .int (iv 3), .ref (ad 4), .ref (ad 5), .ref (ad 6), .ref (ad 7), .ref (ad 8), .ref (ad 9), .ref (ad 10), .ref (ad 11), .ref (ad 12), .ref (ad 13), .ref (ad 14), .ref (ad 15), .ref (ad 16), .int (iv 17), .ref (ad 18), .ref (ad 19), .ref (ad 20), .ref (ad 21), .int (iv 22), .int (iv 23), .int (iv 24), .ref (ad 25), .ref (ad 26), .ref (ad 27), .ref (ad 28), .int (iv 29), .int (iv 30), .int (iv 31), .ref (ad 32), .ref (ad 33), .ref (ad 34), .ref (ad 35), .ref (ad 36), .ref (ad 37), .ref (ad 38), .int (iv 39), .ref (ad 40), .ref (ad 41), .ref (ad 42), .ref (ad 43), .ref (ad 44), .ref (ad 45), .ref (ad 46), .ref (ad 47), .int (iv 48), .ref (ad 49), .ref (ad 50), .ref (ad 51), .ref (ad 52), .int (iv 53), .ref (ad 54), .ref (ad 55), .int (iv 56), .int (iv 57), .ref (ad 58), .ref (ad 59), .ref (ad 60), .ref (ad 61), .ref (ad 62), .ref (ad 63), .ref (ad 64), .int (iv 65), .ref (ad 66), .ref (ad 67), .ref (ad 68), .ref (ad 69), .ref (ad 70), .int (iv 71), .int (iv 72), .int (iv 73), .int (iv 74), .int (iv 75)]
def wM (cI : ClassId) (o : Nat) (ad : Nat → Nat) (iv : mI) (ar : mA) : va_W := (o, .inr (12, fM ad iv)) :: [(ad 1, .inl (cI, 200, .inl (ar 1))), (ad 4, .inl (cI, 400, .inl (ar 4))), (ad 5, .inl (cI, 400, .inl (ar 5))), (ad 6, .inl (cI, 3200, .inl (ar 6))), (ad 7, .inl (cI, 160000, .inl (ar 7))), (ad 8, .inl (cI, 160000, .inl (ar 8))), (ad 9, .inl (cI, 160000, .inl (ar 9))), (ad 10, .inl (cI, 320000, .inl (ar 10))), (ad 11, .inl (cI, 320000, .inl (ar 11))), (ad 12, .inl (cI, 4000, .inl (ar 12))), (ad 13, .inl (cI, 4000, .inl (ar 13))), (ad 14, .inl (cI, 4000, .inl (ar 14))), (ad 15, .inl (cI, 4000, .inl (ar 15))), (ad 16, .inl (cI, 4000, .inl (ar 16))), (ad 18, .inl (cI, 400, .inl (ar 18))), (ad 19, .inl (cI, 400, .inl (ar 19))), (ad 20, .inl (cI, 400, .inl (ar 20))), (ad 21, .inl (cI, 400, .inl (ar 21))), (ad 25, .inl (cI, 220, .inl (ar 25))), (ad 26, .inl (cI, 220, .inl (ar 26))), (ad 27, .inl (cI, 220, .inl (ar 27))), (ad 28, .inl (cI, 220, .inl (ar 28))), (ad 32, .inl (cI, 200, .inl (ar 32))), (ad 33, .inl (cI, 200, .inl (ar 33))), (ad 34, .inl (cI, 200, .inl (ar 34))), (ad 35, .inl (cI, 200, .inl (ar 35))), (ad 36, .inl (cI, 1800, .inl (ar 36))), (ad 37, .inl (cI, 1800, .inl (ar 37))), (ad 38, .inl (cI, 200, .inl (ar 38))), (ad 40, .inl (cI, 200, .inl (ar 40))), (ad 41, .inl (cI, 200, .inl (ar 41))), (ad 42, .inl (cI, 200, .inl (ar 42))), (ad 43, .inl (cI, 1800, .inl (ar 43))), (ad 44, .inl (cI, 1800, .inl (ar 44))), (ad 45, .inl (cI, 200, .inl (ar 45))), (ad 46, .inl (cI, 220, .inl (ar 46))), (ad 47, .inl (cI, 220, .inl (ar 47))), (ad 49, .inl (cI, 200, .inl (ar 49))), (ad 50, .inl (cI, 220, .inl (ar 50))), (ad 51, .inl (cI, 220, .inl (ar 51))), (ad 52, .inl (cI, 220, .inl (ar 52))), (ad 54, .inl (cI, 200, .inl (ar 54))), (ad 55, .inl (cI, 220, .inl (ar 55))), (ad 58, .inl (cI, 2000, .inl (ar 58))), (ad 59, .inl (cI, 2000, .inl (ar 59))), (ad 60, .inl (cI, 16000, .inl (ar 60))), (ad 61, .inl (cI, 2000, .inl (ar 61))), (ad 62, .inl (cI, 2000, .inl (ar 62))), (ad 63, .inl (cI, 20400, .inl (ar 63))), (ad 64, .inl (cI, 20400, .inl (ar 64))), (ad 66, .inl (cI, 301, .inl (ar 66))), (ad 67, .inl (cI, 301, .inl (ar 67))), (ad 68, .inl (cI, 301, .inl (ar 68))), (ad 69, .inl (cI, 301, .inl (ar 69))), (ad 70, .inl (cI, 2709, .inl (ar 70)))]
theorem inX12 : ∀ w ∈ u_ws RX12 TX12 76, w ∈ gtb := in_list [1132, 1134, 1136, 1138, 1140, 1142, 1144, 1146, 1148, 1150, 1152, 1154, 1156, 1158, 1160, 1162, 1164, 1166, 1168, 1170, 1172, 1174, 1176, 1178, 1180, 1182, 1184, 1186, 1188, 1190, 1192, 1194, 1196, 1198, 1200, 1202, 1204, 1206, 1208, 1210, 1212, 1214, 1216, 1218, 1220, 1222, 1224, 1226, 1228, 1230, 1232, 1234, 1236, 1238, 1240, 1242, 1244, 1246, 1248, 1250, 1252, 1254, 1256, 1258, 1260, 1262, 1264, 1266, 1268, 1270, 1272, 1274, 1276, 1278, 1280, 1282] (by decide +kernel) (by decide +kernel)
theorem fl12_1 : Cond.fieldLink RX12 7 (TX12 1).1 (TX12 1).2.1 (TX12 1).2.2.1 ∈ gtb := in_gtb 1057 (by decide +kernel) (by decide +kernel)
theorem gM_1 {cI : ClassId} {o : Nat} {ad : Nat → Nat} {iv : mI} {ar : mA} : isF (wM cI o ad iv ar) o RX12 7 (.ref (ad 1)) := ⟨0, 12, fM ad iv, RX12, TX12, 76, 1, rfl, rfl, inX12, by decide, fl12_1, rfl⟩
theorem aM_1 {cI : ClassId} {o : Nat} {ad : Nat → Nat} {iv : mI} {ar : mA} : isA cI (wM cI o ad iv ar) (ad 1) 200 (ar 1) := ⟨1, rfl⟩
theorem sM_1 {cI : ClassId} {o : Nat} {ad : Nat → Nat} {iv : mI} {ar : mA} {i : Nat} {x : Int32} : isAs cI (wM cI o ad iv ar) (wM cI o ad iv (au ar 1 i x)) (ad 1) 200 i x := ⟨1, ar 1, rfl, rfl⟩
theorem fl12_2 : Cond.fieldLink RX12 13 (TX12 2).1 (TX12 2).2.1 (TX12 2).2.2.1 ∈ gtb := in_gtb 1058 (by decide +kernel) (by decide +kernel)
theorem gM_2 {cI : ClassId} {o : Nat} {ad : Nat → Nat} {iv : mI} {ar : mA} : isF (wM cI o ad iv ar) o RX12 13 (.int (iv 2)) := ⟨0, 12, fM ad iv, RX12, TX12, 76, 2, rfl, rfl, inX12, by decide, fl12_2, rfl⟩
theorem pM_2 {cI : ClassId} {o : Nat} {ad : Nat → Nat} {iv : mI} {ar : mA} {x : Int32} : isP (wM cI o ad iv ar) (wM cI o ad (va_up iv 2 x) ar) o RX12 13 (.int x) := ⟨0, 12, fM ad iv, RX12, TX12, 76, 2, tyX12, rfl, rfl, inX12, by decide, fl12_2, tyX12_ok, nmX12, rfl, rfl, rfl, (by decide : 2 < 76), rfl⟩
theorem fl12_4 : Cond.fieldLink RX12 17 (TX12 4).1 (TX12 4).2.1 (TX12 4).2.2.1 ∈ gtb := in_gtb 1060 (by decide +kernel) (by decide +kernel)
theorem gM_4 {cI : ClassId} {o : Nat} {ad : Nat → Nat} {iv : mI} {ar : mA} : isF (wM cI o ad iv ar) o RX12 17 (.ref (ad 4)) := ⟨0, 12, fM ad iv, RX12, TX12, 76, 4, rfl, rfl, inX12, by decide, fl12_4, rfl⟩
theorem aM_4 {cI : ClassId} {o : Nat} {ad : Nat → Nat} {iv : mI} {ar : mA} : isA cI (wM cI o ad iv ar) (ad 4) 400 (ar 4) := ⟨2, rfl⟩
theorem sM_4 {cI : ClassId} {o : Nat} {ad : Nat → Nat} {iv : mI} {ar : mA} {i : Nat} {x : Int32} : isAs cI (wM cI o ad iv ar) (wM cI o ad iv (au ar 4 i x)) (ad 4) 400 i x := ⟨2, ar 4, rfl, rfl⟩
theorem fl12_5 : Cond.fieldLink RX12 20 (TX12 5).1 (TX12 5).2.1 (TX12 5).2.2.1 ∈ gtb := in_gtb 1061 (by decide +kernel) (by decide +kernel)
theorem gM_5 {cI : ClassId} {o : Nat} {ad : Nat → Nat} {iv : mI} {ar : mA} : isF (wM cI o ad iv ar) o RX12 20 (.ref (ad 5)) := ⟨0, 12, fM ad iv, RX12, TX12, 76, 5, rfl, rfl, inX12, by decide, fl12_5, rfl⟩
theorem aM_5 {cI : ClassId} {o : Nat} {ad : Nat → Nat} {iv : mI} {ar : mA} : isA cI (wM cI o ad iv ar) (ad 5) 400 (ar 5) := ⟨3, rfl⟩
theorem sM_5 {cI : ClassId} {o : Nat} {ad : Nat → Nat} {iv : mI} {ar : mA} {i : Nat} {x : Int32} : isAs cI (wM cI o ad iv ar) (wM cI o ad iv (au ar 5 i x)) (ad 5) 400 i x := ⟨3, ar 5, rfl, rfl⟩
theorem fl12_6 : Cond.fieldLink RX12 23 (TX12 6).1 (TX12 6).2.1 (TX12 6).2.2.1 ∈ gtb := in_gtb 1062 (by decide +kernel) (by decide +kernel)
theorem gM_6 {cI : ClassId} {o : Nat} {ad : Nat → Nat} {iv : mI} {ar : mA} : isF (wM cI o ad iv ar) o RX12 23 (.ref (ad 6)) := ⟨0, 12, fM ad iv, RX12, TX12, 76, 6, rfl, rfl, inX12, by decide, fl12_6, rfl⟩
theorem aM_6 {cI : ClassId} {o : Nat} {ad : Nat → Nat} {iv : mI} {ar : mA} : isA cI (wM cI o ad iv ar) (ad 6) 3200 (ar 6) := ⟨4, rfl⟩
theorem sM_6 {cI : ClassId} {o : Nat} {ad : Nat → Nat} {iv : mI} {ar : mA} {i : Nat} {x : Int32} : isAs cI (wM cI o ad iv ar) (wM cI o ad iv (au ar 6 i x)) (ad 6) 3200 i x := ⟨4, ar 6, rfl, rfl⟩
theorem fl12_7 : Cond.fieldLink RX12 27 (TX12 7).1 (TX12 7).2.1 (TX12 7).2.2.1 ∈ gtb := in_gtb 1063 (by decide +kernel) (by decide +kernel)
theorem gM_7 {cI : ClassId} {o : Nat} {ad : Nat → Nat} {iv : mI} {ar : mA} : isF (wM cI o ad iv ar) o RX12 27 (.ref (ad 7)) := ⟨0, 12, fM ad iv, RX12, TX12, 76, 7, rfl, rfl, inX12, by decide, fl12_7, rfl⟩
theorem aM_7 {cI : ClassId} {o : Nat} {ad : Nat → Nat} {iv : mI} {ar : mA} : isA cI (wM cI o ad iv ar) (ad 7) 160000 (ar 7) := ⟨5, rfl⟩
theorem sM_7 {cI : ClassId} {o : Nat} {ad : Nat → Nat} {iv : mI} {ar : mA} {i : Nat} {x : Int32} : isAs cI (wM cI o ad iv ar) (wM cI o ad iv (au ar 7 i x)) (ad 7) 160000 i x := ⟨5, ar 7, rfl, rfl⟩
theorem fl12_8 : Cond.fieldLink RX12 30 (TX12 8).1 (TX12 8).2.1 (TX12 8).2.2.1 ∈ gtb := in_gtb 1064 (by decide +kernel) (by decide +kernel)
theorem gM_8 {cI : ClassId} {o : Nat} {ad : Nat → Nat} {iv : mI} {ar : mA} : isF (wM cI o ad iv ar) o RX12 30 (.ref (ad 8)) := ⟨0, 12, fM ad iv, RX12, TX12, 76, 8, rfl, rfl, inX12, by decide, fl12_8, rfl⟩
theorem aM_8 {cI : ClassId} {o : Nat} {ad : Nat → Nat} {iv : mI} {ar : mA} : isA cI (wM cI o ad iv ar) (ad 8) 160000 (ar 8) := ⟨6, rfl⟩
theorem sM_8 {cI : ClassId} {o : Nat} {ad : Nat → Nat} {iv : mI} {ar : mA} {i : Nat} {x : Int32} : isAs cI (wM cI o ad iv ar) (wM cI o ad iv (au ar 8 i x)) (ad 8) 160000 i x := ⟨6, ar 8, rfl, rfl⟩
theorem fl12_9 : Cond.fieldLink RX12 33 (TX12 9).1 (TX12 9).2.1 (TX12 9).2.2.1 ∈ gtb := in_gtb 1065 (by decide +kernel) (by decide +kernel)
theorem gM_9 {cI : ClassId} {o : Nat} {ad : Nat → Nat} {iv : mI} {ar : mA} : isF (wM cI o ad iv ar) o RX12 33 (.ref (ad 9)) := ⟨0, 12, fM ad iv, RX12, TX12, 76, 9, rfl, rfl, inX12, by decide, fl12_9, rfl⟩
theorem aM_9 {cI : ClassId} {o : Nat} {ad : Nat → Nat} {iv : mI} {ar : mA} : isA cI (wM cI o ad iv ar) (ad 9) 160000 (ar 9) := ⟨7, rfl⟩
theorem sM_9 {cI : ClassId} {o : Nat} {ad : Nat → Nat} {iv : mI} {ar : mA} {i : Nat} {x : Int32} : isAs cI (wM cI o ad iv ar) (wM cI o ad iv (au ar 9 i x)) (ad 9) 160000 i x := ⟨7, ar 9, rfl, rfl⟩
theorem fl12_10 : Cond.fieldLink RX12 37 (TX12 10).1 (TX12 10).2.1 (TX12 10).2.2.1 ∈ gtb := in_gtb 1066 (by decide +kernel) (by decide +kernel)
theorem gM_10 {cI : ClassId} {o : Nat} {ad : Nat → Nat} {iv : mI} {ar : mA} : isF (wM cI o ad iv ar) o RX12 37 (.ref (ad 10)) := ⟨0, 12, fM ad iv, RX12, TX12, 76, 10, rfl, rfl, inX12, by decide, fl12_10, rfl⟩
theorem aM_10 {cI : ClassId} {o : Nat} {ad : Nat → Nat} {iv : mI} {ar : mA} : isA cI (wM cI o ad iv ar) (ad 10) 320000 (ar 10) := ⟨8, rfl⟩
theorem sM_10 {cI : ClassId} {o : Nat} {ad : Nat → Nat} {iv : mI} {ar : mA} {i : Nat} {x : Int32} : isAs cI (wM cI o ad iv ar) (wM cI o ad iv (au ar 10 i x)) (ad 10) 320000 i x := ⟨8, ar 10, rfl, rfl⟩
theorem fl12_11 : Cond.fieldLink RX12 40 (TX12 11).1 (TX12 11).2.1 (TX12 11).2.2.1 ∈ gtb := in_gtb 1067 (by decide +kernel) (by decide +kernel)
theorem gM_11 {cI : ClassId} {o : Nat} {ad : Nat → Nat} {iv : mI} {ar : mA} : isF (wM cI o ad iv ar) o RX12 40 (.ref (ad 11)) := ⟨0, 12, fM ad iv, RX12, TX12, 76, 11, rfl, rfl, inX12, by decide, fl12_11, rfl⟩
theorem aM_11 {cI : ClassId} {o : Nat} {ad : Nat → Nat} {iv : mI} {ar : mA} : isA cI (wM cI o ad iv ar) (ad 11) 320000 (ar 11) := ⟨9, rfl⟩
theorem sM_11 {cI : ClassId} {o : Nat} {ad : Nat → Nat} {iv : mI} {ar : mA} {i : Nat} {x : Int32} : isAs cI (wM cI o ad iv ar) (wM cI o ad iv (au ar 11 i x)) (ad 11) 320000 i x := ⟨9, ar 11, rfl, rfl⟩
theorem fl12_12 : Cond.fieldLink RX12 43 (TX12 12).1 (TX12 12).2.1 (TX12 12).2.2.1 ∈ gtb := in_gtb 1068 (by decide +kernel) (by decide +kernel)
theorem gM_12 {cI : ClassId} {o : Nat} {ad : Nat → Nat} {iv : mI} {ar : mA} : isF (wM cI o ad iv ar) o RX12 43 (.ref (ad 12)) := ⟨0, 12, fM ad iv, RX12, TX12, 76, 12, rfl, rfl, inX12, by decide, fl12_12, rfl⟩
theorem aM_12 {cI : ClassId} {o : Nat} {ad : Nat → Nat} {iv : mI} {ar : mA} : isA cI (wM cI o ad iv ar) (ad 12) 4000 (ar 12) := ⟨10, rfl⟩
theorem sM_12 {cI : ClassId} {o : Nat} {ad : Nat → Nat} {iv : mI} {ar : mA} {i : Nat} {x : Int32} : isAs cI (wM cI o ad iv ar) (wM cI o ad iv (au ar 12 i x)) (ad 12) 4000 i x := ⟨10, ar 12, rfl, rfl⟩
theorem fl12_13 : Cond.fieldLink RX12 46 (TX12 13).1 (TX12 13).2.1 (TX12 13).2.2.1 ∈ gtb := in_gtb 1069 (by decide +kernel) (by decide +kernel)
theorem gM_13 {cI : ClassId} {o : Nat} {ad : Nat → Nat} {iv : mI} {ar : mA} : isF (wM cI o ad iv ar) o RX12 46 (.ref (ad 13)) := ⟨0, 12, fM ad iv, RX12, TX12, 76, 13, rfl, rfl, inX12, by decide, fl12_13, rfl⟩
theorem aM_13 {cI : ClassId} {o : Nat} {ad : Nat → Nat} {iv : mI} {ar : mA} : isA cI (wM cI o ad iv ar) (ad 13) 4000 (ar 13) := ⟨11, rfl⟩
theorem sM_13 {cI : ClassId} {o : Nat} {ad : Nat → Nat} {iv : mI} {ar : mA} {i : Nat} {x : Int32} : isAs cI (wM cI o ad iv ar) (wM cI o ad iv (au ar 13 i x)) (ad 13) 4000 i x := ⟨11, ar 13, rfl, rfl⟩
theorem fl12_14 : Cond.fieldLink RX12 49 (TX12 14).1 (TX12 14).2.1 (TX12 14).2.2.1 ∈ gtb := in_gtb 1070 (by decide +kernel) (by decide +kernel)
theorem gM_14 {cI : ClassId} {o : Nat} {ad : Nat → Nat} {iv : mI} {ar : mA} : isF (wM cI o ad iv ar) o RX12 49 (.ref (ad 14)) := ⟨0, 12, fM ad iv, RX12, TX12, 76, 14, rfl, rfl, inX12, by decide, fl12_14, rfl⟩
theorem aM_14 {cI : ClassId} {o : Nat} {ad : Nat → Nat} {iv : mI} {ar : mA} : isA cI (wM cI o ad iv ar) (ad 14) 4000 (ar 14) := ⟨12, rfl⟩
theorem sM_14 {cI : ClassId} {o : Nat} {ad : Nat → Nat} {iv : mI} {ar : mA} {i : Nat} {x : Int32} : isAs cI (wM cI o ad iv ar) (wM cI o ad iv (au ar 14 i x)) (ad 14) 4000 i x := ⟨12, ar 14, rfl, rfl⟩
theorem fl12_15 : Cond.fieldLink RX12 52 (TX12 15).1 (TX12 15).2.1 (TX12 15).2.2.1 ∈ gtb := in_gtb 1071 (by decide +kernel) (by decide +kernel)
theorem gM_15 {cI : ClassId} {o : Nat} {ad : Nat → Nat} {iv : mI} {ar : mA} : isF (wM cI o ad iv ar) o RX12 52 (.ref (ad 15)) := ⟨0, 12, fM ad iv, RX12, TX12, 76, 15, rfl, rfl, inX12, by decide, fl12_15, rfl⟩
theorem aM_15 {cI : ClassId} {o : Nat} {ad : Nat → Nat} {iv : mI} {ar : mA} : isA cI (wM cI o ad iv ar) (ad 15) 4000 (ar 15) := ⟨13, rfl⟩
theorem sM_15 {cI : ClassId} {o : Nat} {ad : Nat → Nat} {iv : mI} {ar : mA} {i : Nat} {x : Int32} : isAs cI (wM cI o ad iv ar) (wM cI o ad iv (au ar 15 i x)) (ad 15) 4000 i x := ⟨13, ar 15, rfl, rfl⟩
theorem fl12_16 : Cond.fieldLink RX12 55 (TX12 16).1 (TX12 16).2.1 (TX12 16).2.2.1 ∈ gtb := in_gtb 1072 (by decide +kernel) (by decide +kernel)
theorem gM_16 {cI : ClassId} {o : Nat} {ad : Nat → Nat} {iv : mI} {ar : mA} : isF (wM cI o ad iv ar) o RX12 55 (.ref (ad 16)) := ⟨0, 12, fM ad iv, RX12, TX12, 76, 16, rfl, rfl, inX12, by decide, fl12_16, rfl⟩
theorem aM_16 {cI : ClassId} {o : Nat} {ad : Nat → Nat} {iv : mI} {ar : mA} : isA cI (wM cI o ad iv ar) (ad 16) 4000 (ar 16) := ⟨14, rfl⟩
theorem sM_16 {cI : ClassId} {o : Nat} {ad : Nat → Nat} {iv : mI} {ar : mA} {i : Nat} {x : Int32} : isAs cI (wM cI o ad iv ar) (wM cI o ad iv (au ar 16 i x)) (ad 16) 4000 i x := ⟨14, ar 16, rfl, rfl⟩
theorem fl12_18 : Cond.fieldLink RX12 58 (TX12 18).1 (TX12 18).2.1 (TX12 18).2.2.1 ∈ gtb := in_gtb 1074 (by decide +kernel) (by decide +kernel)
theorem gM_18 {cI : ClassId} {o : Nat} {ad : Nat → Nat} {iv : mI} {ar : mA} : isF (wM cI o ad iv ar) o RX12 58 (.ref (ad 18)) := ⟨0, 12, fM ad iv, RX12, TX12, 76, 18, rfl, rfl, inX12, by decide, fl12_18, rfl⟩
theorem aM_18 {cI : ClassId} {o : Nat} {ad : Nat → Nat} {iv : mI} {ar : mA} : isA cI (wM cI o ad iv ar) (ad 18) 400 (ar 18) := ⟨15, rfl⟩
theorem sM_18 {cI : ClassId} {o : Nat} {ad : Nat → Nat} {iv : mI} {ar : mA} {i : Nat} {x : Int32} : isAs cI (wM cI o ad iv ar) (wM cI o ad iv (au ar 18 i x)) (ad 18) 400 i x := ⟨15, ar 18, rfl, rfl⟩
theorem fl12_19 : Cond.fieldLink RX12 61 (TX12 19).1 (TX12 19).2.1 (TX12 19).2.2.1 ∈ gtb := in_gtb 1075 (by decide +kernel) (by decide +kernel)
theorem gM_19 {cI : ClassId} {o : Nat} {ad : Nat → Nat} {iv : mI} {ar : mA} : isF (wM cI o ad iv ar) o RX12 61 (.ref (ad 19)) := ⟨0, 12, fM ad iv, RX12, TX12, 76, 19, rfl, rfl, inX12, by decide, fl12_19, rfl⟩
theorem aM_19 {cI : ClassId} {o : Nat} {ad : Nat → Nat} {iv : mI} {ar : mA} : isA cI (wM cI o ad iv ar) (ad 19) 400 (ar 19) := ⟨16, rfl⟩
theorem sM_19 {cI : ClassId} {o : Nat} {ad : Nat → Nat} {iv : mI} {ar : mA} {i : Nat} {x : Int32} : isAs cI (wM cI o ad iv ar) (wM cI o ad iv (au ar 19 i x)) (ad 19) 400 i x := ⟨16, ar 19, rfl, rfl⟩
theorem fl12_20 : Cond.fieldLink RX12 64 (TX12 20).1 (TX12 20).2.1 (TX12 20).2.2.1 ∈ gtb := in_gtb 1076 (by decide +kernel) (by decide +kernel)
theorem gM_20 {cI : ClassId} {o : Nat} {ad : Nat → Nat} {iv : mI} {ar : mA} : isF (wM cI o ad iv ar) o RX12 64 (.ref (ad 20)) := ⟨0, 12, fM ad iv, RX12, TX12, 76, 20, rfl, rfl, inX12, by decide, fl12_20, rfl⟩
theorem aM_20 {cI : ClassId} {o : Nat} {ad : Nat → Nat} {iv : mI} {ar : mA} : isA cI (wM cI o ad iv ar) (ad 20) 400 (ar 20) := ⟨17, rfl⟩
theorem sM_20 {cI : ClassId} {o : Nat} {ad : Nat → Nat} {iv : mI} {ar : mA} {i : Nat} {x : Int32} : isAs cI (wM cI o ad iv ar) (wM cI o ad iv (au ar 20 i x)) (ad 20) 400 i x := ⟨17, ar 20, rfl, rfl⟩
theorem fl12_21 : Cond.fieldLink RX12 67 (TX12 21).1 (TX12 21).2.1 (TX12 21).2.2.1 ∈ gtb := in_gtb 1077 (by decide +kernel) (by decide +kernel)
theorem gM_21 {cI : ClassId} {o : Nat} {ad : Nat → Nat} {iv : mI} {ar : mA} : isF (wM cI o ad iv ar) o RX12 67 (.ref (ad 21)) := ⟨0, 12, fM ad iv, RX12, TX12, 76, 21, rfl, rfl, inX12, by decide, fl12_21, rfl⟩
theorem aM_21 {cI : ClassId} {o : Nat} {ad : Nat → Nat} {iv : mI} {ar : mA} : isA cI (wM cI o ad iv ar) (ad 21) 400 (ar 21) := ⟨18, rfl⟩
theorem sM_21 {cI : ClassId} {o : Nat} {ad : Nat → Nat} {iv : mI} {ar : mA} {i : Nat} {x : Int32} : isAs cI (wM cI o ad iv ar) (wM cI o ad iv (au ar 21 i x)) (ad 21) 400 i x := ⟨18, ar 21, rfl, rfl⟩
theorem fl12_25 : Cond.fieldLink RX12 70 (TX12 25).1 (TX12 25).2.1 (TX12 25).2.2.1 ∈ gtb := in_gtb 1081 (by decide +kernel) (by decide +kernel)
theorem gM_25 {cI : ClassId} {o : Nat} {ad : Nat → Nat} {iv : mI} {ar : mA} : isF (wM cI o ad iv ar) o RX12 70 (.ref (ad 25)) := ⟨0, 12, fM ad iv, RX12, TX12, 76, 25, rfl, rfl, inX12, by decide, fl12_25, rfl⟩
theorem aM_25 {cI : ClassId} {o : Nat} {ad : Nat → Nat} {iv : mI} {ar : mA} : isA cI (wM cI o ad iv ar) (ad 25) 220 (ar 25) := ⟨19, rfl⟩
theorem sM_25 {cI : ClassId} {o : Nat} {ad : Nat → Nat} {iv : mI} {ar : mA} {i : Nat} {x : Int32} : isAs cI (wM cI o ad iv ar) (wM cI o ad iv (au ar 25 i x)) (ad 25) 220 i x := ⟨19, ar 25, rfl, rfl⟩
theorem fl12_26 : Cond.fieldLink RX12 73 (TX12 26).1 (TX12 26).2.1 (TX12 26).2.2.1 ∈ gtb := in_gtb 1082 (by decide +kernel) (by decide +kernel)
theorem gM_26 {cI : ClassId} {o : Nat} {ad : Nat → Nat} {iv : mI} {ar : mA} : isF (wM cI o ad iv ar) o RX12 73 (.ref (ad 26)) := ⟨0, 12, fM ad iv, RX12, TX12, 76, 26, rfl, rfl, inX12, by decide, fl12_26, rfl⟩
theorem aM_26 {cI : ClassId} {o : Nat} {ad : Nat → Nat} {iv : mI} {ar : mA} : isA cI (wM cI o ad iv ar) (ad 26) 220 (ar 26) := ⟨20, rfl⟩
theorem sM_26 {cI : ClassId} {o : Nat} {ad : Nat → Nat} {iv : mI} {ar : mA} {i : Nat} {x : Int32} : isAs cI (wM cI o ad iv ar) (wM cI o ad iv (au ar 26 i x)) (ad 26) 220 i x := ⟨20, ar 26, rfl, rfl⟩
theorem fl12_27 : Cond.fieldLink RX12 76 (TX12 27).1 (TX12 27).2.1 (TX12 27).2.2.1 ∈ gtb := in_gtb 1083 (by decide +kernel) (by decide +kernel)
theorem gM_27 {cI : ClassId} {o : Nat} {ad : Nat → Nat} {iv : mI} {ar : mA} : isF (wM cI o ad iv ar) o RX12 76 (.ref (ad 27)) := ⟨0, 12, fM ad iv, RX12, TX12, 76, 27, rfl, rfl, inX12, by decide, fl12_27, rfl⟩
theorem aM_27 {cI : ClassId} {o : Nat} {ad : Nat → Nat} {iv : mI} {ar : mA} : isA cI (wM cI o ad iv ar) (ad 27) 220 (ar 27) := ⟨21, rfl⟩
theorem sM_27 {cI : ClassId} {o : Nat} {ad : Nat → Nat} {iv : mI} {ar : mA} {i : Nat} {x : Int32} : isAs cI (wM cI o ad iv ar) (wM cI o ad iv (au ar 27 i x)) (ad 27) 220 i x := ⟨21, ar 27, rfl, rfl⟩
theorem fl12_28 : Cond.fieldLink RX12 79 (TX12 28).1 (TX12 28).2.1 (TX12 28).2.2.1 ∈ gtb := in_gtb 1084 (by decide +kernel) (by decide +kernel)
theorem gM_28 {cI : ClassId} {o : Nat} {ad : Nat → Nat} {iv : mI} {ar : mA} : isF (wM cI o ad iv ar) o RX12 79 (.ref (ad 28)) := ⟨0, 12, fM ad iv, RX12, TX12, 76, 28, rfl, rfl, inX12, by decide, fl12_28, rfl⟩
theorem aM_28 {cI : ClassId} {o : Nat} {ad : Nat → Nat} {iv : mI} {ar : mA} : isA cI (wM cI o ad iv ar) (ad 28) 220 (ar 28) := ⟨22, rfl⟩
theorem sM_28 {cI : ClassId} {o : Nat} {ad : Nat → Nat} {iv : mI} {ar : mA} {i : Nat} {x : Int32} : isAs cI (wM cI o ad iv ar) (wM cI o ad iv (au ar 28 i x)) (ad 28) 220 i x := ⟨22, ar 28, rfl, rfl⟩
theorem fl12_32 : Cond.fieldLink RX12 82 (TX12 32).1 (TX12 32).2.1 (TX12 32).2.2.1 ∈ gtb := in_gtb 1088 (by decide +kernel) (by decide +kernel)
theorem gM_32 {cI : ClassId} {o : Nat} {ad : Nat → Nat} {iv : mI} {ar : mA} : isF (wM cI o ad iv ar) o RX12 82 (.ref (ad 32)) := ⟨0, 12, fM ad iv, RX12, TX12, 76, 32, rfl, rfl, inX12, by decide, fl12_32, rfl⟩
theorem aM_32 {cI : ClassId} {o : Nat} {ad : Nat → Nat} {iv : mI} {ar : mA} : isA cI (wM cI o ad iv ar) (ad 32) 200 (ar 32) := ⟨23, rfl⟩
theorem sM_32 {cI : ClassId} {o : Nat} {ad : Nat → Nat} {iv : mI} {ar : mA} {i : Nat} {x : Int32} : isAs cI (wM cI o ad iv ar) (wM cI o ad iv (au ar 32 i x)) (ad 32) 200 i x := ⟨23, ar 32, rfl, rfl⟩
theorem fl12_33 : Cond.fieldLink RX12 85 (TX12 33).1 (TX12 33).2.1 (TX12 33).2.2.1 ∈ gtb := in_gtb 1089 (by decide +kernel) (by decide +kernel)
theorem gM_33 {cI : ClassId} {o : Nat} {ad : Nat → Nat} {iv : mI} {ar : mA} : isF (wM cI o ad iv ar) o RX12 85 (.ref (ad 33)) := ⟨0, 12, fM ad iv, RX12, TX12, 76, 33, rfl, rfl, inX12, by decide, fl12_33, rfl⟩
theorem aM_33 {cI : ClassId} {o : Nat} {ad : Nat → Nat} {iv : mI} {ar : mA} : isA cI (wM cI o ad iv ar) (ad 33) 200 (ar 33) := ⟨24, rfl⟩
theorem sM_33 {cI : ClassId} {o : Nat} {ad : Nat → Nat} {iv : mI} {ar : mA} {i : Nat} {x : Int32} : isAs cI (wM cI o ad iv ar) (wM cI o ad iv (au ar 33 i x)) (ad 33) 200 i x := ⟨24, ar 33, rfl, rfl⟩
theorem fl12_34 : Cond.fieldLink RX12 88 (TX12 34).1 (TX12 34).2.1 (TX12 34).2.2.1 ∈ gtb := in_gtb 1090 (by decide +kernel) (by decide +kernel)
theorem gM_34 {cI : ClassId} {o : Nat} {ad : Nat → Nat} {iv : mI} {ar : mA} : isF (wM cI o ad iv ar) o RX12 88 (.ref (ad 34)) := ⟨0, 12, fM ad iv, RX12, TX12, 76, 34, rfl, rfl, inX12, by decide, fl12_34, rfl⟩
theorem aM_34 {cI : ClassId} {o : Nat} {ad : Nat → Nat} {iv : mI} {ar : mA} : isA cI (wM cI o ad iv ar) (ad 34) 200 (ar 34) := ⟨25, rfl⟩
theorem sM_34 {cI : ClassId} {o : Nat} {ad : Nat → Nat} {iv : mI} {ar : mA} {i : Nat} {x : Int32} : isAs cI (wM cI o ad iv ar) (wM cI o ad iv (au ar 34 i x)) (ad 34) 200 i x := ⟨25, ar 34, rfl, rfl⟩
theorem fl12_35 : Cond.fieldLink RX12 91 (TX12 35).1 (TX12 35).2.1 (TX12 35).2.2.1 ∈ gtb := in_gtb 1091 (by decide +kernel) (by decide +kernel)
theorem gM_35 {cI : ClassId} {o : Nat} {ad : Nat → Nat} {iv : mI} {ar : mA} : isF (wM cI o ad iv ar) o RX12 91 (.ref (ad 35)) := ⟨0, 12, fM ad iv, RX12, TX12, 76, 35, rfl, rfl, inX12, by decide, fl12_35, rfl⟩
theorem aM_35 {cI : ClassId} {o : Nat} {ad : Nat → Nat} {iv : mI} {ar : mA} : isA cI (wM cI o ad iv ar) (ad 35) 200 (ar 35) := ⟨26, rfl⟩
theorem sM_35 {cI : ClassId} {o : Nat} {ad : Nat → Nat} {iv : mI} {ar : mA} {i : Nat} {x : Int32} : isAs cI (wM cI o ad iv ar) (wM cI o ad iv (au ar 35 i x)) (ad 35) 200 i x := ⟨26, ar 35, rfl, rfl⟩
theorem fl12_36 : Cond.fieldLink RX12 94 (TX12 36).1 (TX12 36).2.1 (TX12 36).2.2.1 ∈ gtb := in_gtb 1092 (by decide +kernel) (by decide +kernel)
theorem gM_36 {cI : ClassId} {o : Nat} {ad : Nat → Nat} {iv : mI} {ar : mA} : isF (wM cI o ad iv ar) o RX12 94 (.ref (ad 36)) := ⟨0, 12, fM ad iv, RX12, TX12, 76, 36, rfl, rfl, inX12, by decide, fl12_36, rfl⟩
theorem aM_36 {cI : ClassId} {o : Nat} {ad : Nat → Nat} {iv : mI} {ar : mA} : isA cI (wM cI o ad iv ar) (ad 36) 1800 (ar 36) := ⟨27, rfl⟩
theorem sM_36 {cI : ClassId} {o : Nat} {ad : Nat → Nat} {iv : mI} {ar : mA} {i : Nat} {x : Int32} : isAs cI (wM cI o ad iv ar) (wM cI o ad iv (au ar 36 i x)) (ad 36) 1800 i x := ⟨27, ar 36, rfl, rfl⟩
theorem fl12_37 : Cond.fieldLink RX12 97 (TX12 37).1 (TX12 37).2.1 (TX12 37).2.2.1 ∈ gtb := in_gtb 1093 (by decide +kernel) (by decide +kernel)
theorem gM_37 {cI : ClassId} {o : Nat} {ad : Nat → Nat} {iv : mI} {ar : mA} : isF (wM cI o ad iv ar) o RX12 97 (.ref (ad 37)) := ⟨0, 12, fM ad iv, RX12, TX12, 76, 37, rfl, rfl, inX12, by decide, fl12_37, rfl⟩
theorem aM_37 {cI : ClassId} {o : Nat} {ad : Nat → Nat} {iv : mI} {ar : mA} : isA cI (wM cI o ad iv ar) (ad 37) 1800 (ar 37) := ⟨28, rfl⟩
theorem sM_37 {cI : ClassId} {o : Nat} {ad : Nat → Nat} {iv : mI} {ar : mA} {i : Nat} {x : Int32} : isAs cI (wM cI o ad iv ar) (wM cI o ad iv (au ar 37 i x)) (ad 37) 1800 i x := ⟨28, ar 37, rfl, rfl⟩
theorem fl12_38 : Cond.fieldLink RX12 100 (TX12 38).1 (TX12 38).2.1 (TX12 38).2.2.1 ∈ gtb := in_gtb 1094 (by decide +kernel) (by decide +kernel)
theorem gM_38 {cI : ClassId} {o : Nat} {ad : Nat → Nat} {iv : mI} {ar : mA} : isF (wM cI o ad iv ar) o RX12 100 (.ref (ad 38)) := ⟨0, 12, fM ad iv, RX12, TX12, 76, 38, rfl, rfl, inX12, by decide, fl12_38, rfl⟩
theorem aM_38 {cI : ClassId} {o : Nat} {ad : Nat → Nat} {iv : mI} {ar : mA} : isA cI (wM cI o ad iv ar) (ad 38) 200 (ar 38) := ⟨29, rfl⟩
theorem sM_38 {cI : ClassId} {o : Nat} {ad : Nat → Nat} {iv : mI} {ar : mA} {i : Nat} {x : Int32} : isAs cI (wM cI o ad iv ar) (wM cI o ad iv (au ar 38 i x)) (ad 38) 200 i x := ⟨29, ar 38, rfl, rfl⟩
theorem fl12_40 : Cond.fieldLink RX12 103 (TX12 40).1 (TX12 40).2.1 (TX12 40).2.2.1 ∈ gtb := in_gtb 1096 (by decide +kernel) (by decide +kernel)
theorem gM_40 {cI : ClassId} {o : Nat} {ad : Nat → Nat} {iv : mI} {ar : mA} : isF (wM cI o ad iv ar) o RX12 103 (.ref (ad 40)) := ⟨0, 12, fM ad iv, RX12, TX12, 76, 40, rfl, rfl, inX12, by decide, fl12_40, rfl⟩
theorem aM_40 {cI : ClassId} {o : Nat} {ad : Nat → Nat} {iv : mI} {ar : mA} : isA cI (wM cI o ad iv ar) (ad 40) 200 (ar 40) := ⟨30, rfl⟩
theorem sM_40 {cI : ClassId} {o : Nat} {ad : Nat → Nat} {iv : mI} {ar : mA} {i : Nat} {x : Int32} : isAs cI (wM cI o ad iv ar) (wM cI o ad iv (au ar 40 i x)) (ad 40) 200 i x := ⟨30, ar 40, rfl, rfl⟩
theorem fl12_41 : Cond.fieldLink RX12 106 (TX12 41).1 (TX12 41).2.1 (TX12 41).2.2.1 ∈ gtb := in_gtb 1097 (by decide +kernel) (by decide +kernel)
theorem gM_41 {cI : ClassId} {o : Nat} {ad : Nat → Nat} {iv : mI} {ar : mA} : isF (wM cI o ad iv ar) o RX12 106 (.ref (ad 41)) := ⟨0, 12, fM ad iv, RX12, TX12, 76, 41, rfl, rfl, inX12, by decide, fl12_41, rfl⟩
theorem aM_41 {cI : ClassId} {o : Nat} {ad : Nat → Nat} {iv : mI} {ar : mA} : isA cI (wM cI o ad iv ar) (ad 41) 200 (ar 41) := ⟨31, rfl⟩
theorem sM_41 {cI : ClassId} {o : Nat} {ad : Nat → Nat} {iv : mI} {ar : mA} {i : Nat} {x : Int32} : isAs cI (wM cI o ad iv ar) (wM cI o ad iv (au ar 41 i x)) (ad 41) 200 i x := ⟨31, ar 41, rfl, rfl⟩
theorem fl12_42 : Cond.fieldLink RX12 109 (TX12 42).1 (TX12 42).2.1 (TX12 42).2.2.1 ∈ gtb := in_gtb 1098 (by decide +kernel) (by decide +kernel)
theorem gM_42 {cI : ClassId} {o : Nat} {ad : Nat → Nat} {iv : mI} {ar : mA} : isF (wM cI o ad iv ar) o RX12 109 (.ref (ad 42)) := ⟨0, 12, fM ad iv, RX12, TX12, 76, 42, rfl, rfl, inX12, by decide, fl12_42, rfl⟩
theorem aM_42 {cI : ClassId} {o : Nat} {ad : Nat → Nat} {iv : mI} {ar : mA} : isA cI (wM cI o ad iv ar) (ad 42) 200 (ar 42) := ⟨32, rfl⟩
theorem sM_42 {cI : ClassId} {o : Nat} {ad : Nat → Nat} {iv : mI} {ar : mA} {i : Nat} {x : Int32} : isAs cI (wM cI o ad iv ar) (wM cI o ad iv (au ar 42 i x)) (ad 42) 200 i x := ⟨32, ar 42, rfl, rfl⟩
theorem fl12_43 : Cond.fieldLink RX12 112 (TX12 43).1 (TX12 43).2.1 (TX12 43).2.2.1 ∈ gtb := in_gtb 1099 (by decide +kernel) (by decide +kernel)
theorem gM_43 {cI : ClassId} {o : Nat} {ad : Nat → Nat} {iv : mI} {ar : mA} : isF (wM cI o ad iv ar) o RX12 112 (.ref (ad 43)) := ⟨0, 12, fM ad iv, RX12, TX12, 76, 43, rfl, rfl, inX12, by decide, fl12_43, rfl⟩
theorem aM_43 {cI : ClassId} {o : Nat} {ad : Nat → Nat} {iv : mI} {ar : mA} : isA cI (wM cI o ad iv ar) (ad 43) 1800 (ar 43) := ⟨33, rfl⟩
theorem sM_43 {cI : ClassId} {o : Nat} {ad : Nat → Nat} {iv : mI} {ar : mA} {i : Nat} {x : Int32} : isAs cI (wM cI o ad iv ar) (wM cI o ad iv (au ar 43 i x)) (ad 43) 1800 i x := ⟨33, ar 43, rfl, rfl⟩
theorem fl12_44 : Cond.fieldLink RX12 115 (TX12 44).1 (TX12 44).2.1 (TX12 44).2.2.1 ∈ gtb := in_gtb 1100 (by decide +kernel) (by decide +kernel)
theorem gM_44 {cI : ClassId} {o : Nat} {ad : Nat → Nat} {iv : mI} {ar : mA} : isF (wM cI o ad iv ar) o RX12 115 (.ref (ad 44)) := ⟨0, 12, fM ad iv, RX12, TX12, 76, 44, rfl, rfl, inX12, by decide, fl12_44, rfl⟩
theorem aM_44 {cI : ClassId} {o : Nat} {ad : Nat → Nat} {iv : mI} {ar : mA} : isA cI (wM cI o ad iv ar) (ad 44) 1800 (ar 44) := ⟨34, rfl⟩
theorem sM_44 {cI : ClassId} {o : Nat} {ad : Nat → Nat} {iv : mI} {ar : mA} {i : Nat} {x : Int32} : isAs cI (wM cI o ad iv ar) (wM cI o ad iv (au ar 44 i x)) (ad 44) 1800 i x := ⟨34, ar 44, rfl, rfl⟩
theorem fl12_45 : Cond.fieldLink RX12 118 (TX12 45).1 (TX12 45).2.1 (TX12 45).2.2.1 ∈ gtb := in_gtb 1101 (by decide +kernel) (by decide +kernel)
theorem gM_45 {cI : ClassId} {o : Nat} {ad : Nat → Nat} {iv : mI} {ar : mA} : isF (wM cI o ad iv ar) o RX12 118 (.ref (ad 45)) := ⟨0, 12, fM ad iv, RX12, TX12, 76, 45, rfl, rfl, inX12, by decide, fl12_45, rfl⟩
theorem aM_45 {cI : ClassId} {o : Nat} {ad : Nat → Nat} {iv : mI} {ar : mA} : isA cI (wM cI o ad iv ar) (ad 45) 200 (ar 45) := ⟨35, rfl⟩
theorem sM_45 {cI : ClassId} {o : Nat} {ad : Nat → Nat} {iv : mI} {ar : mA} {i : Nat} {x : Int32} : isAs cI (wM cI o ad iv ar) (wM cI o ad iv (au ar 45 i x)) (ad 45) 200 i x := ⟨35, ar 45, rfl, rfl⟩
theorem fl12_46 : Cond.fieldLink RX12 121 (TX12 46).1 (TX12 46).2.1 (TX12 46).2.2.1 ∈ gtb := in_gtb 1102 (by decide +kernel) (by decide +kernel)
theorem gM_46 {cI : ClassId} {o : Nat} {ad : Nat → Nat} {iv : mI} {ar : mA} : isF (wM cI o ad iv ar) o RX12 121 (.ref (ad 46)) := ⟨0, 12, fM ad iv, RX12, TX12, 76, 46, rfl, rfl, inX12, by decide, fl12_46, rfl⟩
theorem aM_46 {cI : ClassId} {o : Nat} {ad : Nat → Nat} {iv : mI} {ar : mA} : isA cI (wM cI o ad iv ar) (ad 46) 220 (ar 46) := ⟨36, rfl⟩
theorem sM_46 {cI : ClassId} {o : Nat} {ad : Nat → Nat} {iv : mI} {ar : mA} {i : Nat} {x : Int32} : isAs cI (wM cI o ad iv ar) (wM cI o ad iv (au ar 46 i x)) (ad 46) 220 i x := ⟨36, ar 46, rfl, rfl⟩
theorem fl12_47 : Cond.fieldLink RX12 124 (TX12 47).1 (TX12 47).2.1 (TX12 47).2.2.1 ∈ gtb := in_gtb 1103 (by decide +kernel) (by decide +kernel)
theorem gM_47 {cI : ClassId} {o : Nat} {ad : Nat → Nat} {iv : mI} {ar : mA} : isF (wM cI o ad iv ar) o RX12 124 (.ref (ad 47)) := ⟨0, 12, fM ad iv, RX12, TX12, 76, 47, rfl, rfl, inX12, by decide, fl12_47, rfl⟩
theorem aM_47 {cI : ClassId} {o : Nat} {ad : Nat → Nat} {iv : mI} {ar : mA} : isA cI (wM cI o ad iv ar) (ad 47) 220 (ar 47) := ⟨37, rfl⟩
theorem sM_47 {cI : ClassId} {o : Nat} {ad : Nat → Nat} {iv : mI} {ar : mA} {i : Nat} {x : Int32} : isAs cI (wM cI o ad iv ar) (wM cI o ad iv (au ar 47 i x)) (ad 47) 220 i x := ⟨37, ar 47, rfl, rfl⟩
theorem fl12_49 : Cond.fieldLink RX12 127 (TX12 49).1 (TX12 49).2.1 (TX12 49).2.2.1 ∈ gtb := in_gtb 1105 (by decide +kernel) (by decide +kernel)
theorem gM_49 {cI : ClassId} {o : Nat} {ad : Nat → Nat} {iv : mI} {ar : mA} : isF (wM cI o ad iv ar) o RX12 127 (.ref (ad 49)) := ⟨0, 12, fM ad iv, RX12, TX12, 76, 49, rfl, rfl, inX12, by decide, fl12_49, rfl⟩
theorem aM_49 {cI : ClassId} {o : Nat} {ad : Nat → Nat} {iv : mI} {ar : mA} : isA cI (wM cI o ad iv ar) (ad 49) 200 (ar 49) := ⟨38, rfl⟩
theorem sM_49 {cI : ClassId} {o : Nat} {ad : Nat → Nat} {iv : mI} {ar : mA} {i : Nat} {x : Int32} : isAs cI (wM cI o ad iv ar) (wM cI o ad iv (au ar 49 i x)) (ad 49) 200 i x := ⟨38, ar 49, rfl, rfl⟩
theorem fl12_50 : Cond.fieldLink RX12 130 (TX12 50).1 (TX12 50).2.1 (TX12 50).2.2.1 ∈ gtb := in_gtb 1106 (by decide +kernel) (by decide +kernel)
theorem gM_50 {cI : ClassId} {o : Nat} {ad : Nat → Nat} {iv : mI} {ar : mA} : isF (wM cI o ad iv ar) o RX12 130 (.ref (ad 50)) := ⟨0, 12, fM ad iv, RX12, TX12, 76, 50, rfl, rfl, inX12, by decide, fl12_50, rfl⟩
theorem aM_50 {cI : ClassId} {o : Nat} {ad : Nat → Nat} {iv : mI} {ar : mA} : isA cI (wM cI o ad iv ar) (ad 50) 220 (ar 50) := ⟨39, rfl⟩
theorem sM_50 {cI : ClassId} {o : Nat} {ad : Nat → Nat} {iv : mI} {ar : mA} {i : Nat} {x : Int32} : isAs cI (wM cI o ad iv ar) (wM cI o ad iv (au ar 50 i x)) (ad 50) 220 i x := ⟨39, ar 50, rfl, rfl⟩
theorem fl12_51 : Cond.fieldLink RX12 133 (TX12 51).1 (TX12 51).2.1 (TX12 51).2.2.1 ∈ gtb := in_gtb 1107 (by decide +kernel) (by decide +kernel)
theorem gM_51 {cI : ClassId} {o : Nat} {ad : Nat → Nat} {iv : mI} {ar : mA} : isF (wM cI o ad iv ar) o RX12 133 (.ref (ad 51)) := ⟨0, 12, fM ad iv, RX12, TX12, 76, 51, rfl, rfl, inX12, by decide, fl12_51, rfl⟩
theorem aM_51 {cI : ClassId} {o : Nat} {ad : Nat → Nat} {iv : mI} {ar : mA} : isA cI (wM cI o ad iv ar) (ad 51) 220 (ar 51) := ⟨40, rfl⟩
theorem sM_51 {cI : ClassId} {o : Nat} {ad : Nat → Nat} {iv : mI} {ar : mA} {i : Nat} {x : Int32} : isAs cI (wM cI o ad iv ar) (wM cI o ad iv (au ar 51 i x)) (ad 51) 220 i x := ⟨40, ar 51, rfl, rfl⟩
theorem fl12_52 : Cond.fieldLink RX12 136 (TX12 52).1 (TX12 52).2.1 (TX12 52).2.2.1 ∈ gtb := in_gtb 1108 (by decide +kernel) (by decide +kernel)
theorem gM_52 {cI : ClassId} {o : Nat} {ad : Nat → Nat} {iv : mI} {ar : mA} : isF (wM cI o ad iv ar) o RX12 136 (.ref (ad 52)) := ⟨0, 12, fM ad iv, RX12, TX12, 76, 52, rfl, rfl, inX12, by decide, fl12_52, rfl⟩
theorem aM_52 {cI : ClassId} {o : Nat} {ad : Nat → Nat} {iv : mI} {ar : mA} : isA cI (wM cI o ad iv ar) (ad 52) 220 (ar 52) := ⟨41, rfl⟩
theorem sM_52 {cI : ClassId} {o : Nat} {ad : Nat → Nat} {iv : mI} {ar : mA} {i : Nat} {x : Int32} : isAs cI (wM cI o ad iv ar) (wM cI o ad iv (au ar 52 i x)) (ad 52) 220 i x := ⟨41, ar 52, rfl, rfl⟩
theorem fl12_54 : Cond.fieldLink RX12 139 (TX12 54).1 (TX12 54).2.1 (TX12 54).2.2.1 ∈ gtb := in_gtb 1110 (by decide +kernel) (by decide +kernel)
theorem gM_54 {cI : ClassId} {o : Nat} {ad : Nat → Nat} {iv : mI} {ar : mA} : isF (wM cI o ad iv ar) o RX12 139 (.ref (ad 54)) := ⟨0, 12, fM ad iv, RX12, TX12, 76, 54, rfl, rfl, inX12, by decide, fl12_54, rfl⟩
theorem aM_54 {cI : ClassId} {o : Nat} {ad : Nat → Nat} {iv : mI} {ar : mA} : isA cI (wM cI o ad iv ar) (ad 54) 200 (ar 54) := ⟨42, rfl⟩
theorem sM_54 {cI : ClassId} {o : Nat} {ad : Nat → Nat} {iv : mI} {ar : mA} {i : Nat} {x : Int32} : isAs cI (wM cI o ad iv ar) (wM cI o ad iv (au ar 54 i x)) (ad 54) 200 i x := ⟨42, ar 54, rfl, rfl⟩
theorem fl12_55 : Cond.fieldLink RX12 142 (TX12 55).1 (TX12 55).2.1 (TX12 55).2.2.1 ∈ gtb := in_gtb 1111 (by decide +kernel) (by decide +kernel)
theorem gM_55 {cI : ClassId} {o : Nat} {ad : Nat → Nat} {iv : mI} {ar : mA} : isF (wM cI o ad iv ar) o RX12 142 (.ref (ad 55)) := ⟨0, 12, fM ad iv, RX12, TX12, 76, 55, rfl, rfl, inX12, by decide, fl12_55, rfl⟩
theorem aM_55 {cI : ClassId} {o : Nat} {ad : Nat → Nat} {iv : mI} {ar : mA} : isA cI (wM cI o ad iv ar) (ad 55) 220 (ar 55) := ⟨43, rfl⟩
theorem sM_55 {cI : ClassId} {o : Nat} {ad : Nat → Nat} {iv : mI} {ar : mA} {i : Nat} {x : Int32} : isAs cI (wM cI o ad iv ar) (wM cI o ad iv (au ar 55 i x)) (ad 55) 220 i x := ⟨43, ar 55, rfl, rfl⟩
theorem fl12_58 : Cond.fieldLink RX12 145 (TX12 58).1 (TX12 58).2.1 (TX12 58).2.2.1 ∈ gtb := in_gtb 1114 (by decide +kernel) (by decide +kernel)
theorem gM_58 {cI : ClassId} {o : Nat} {ad : Nat → Nat} {iv : mI} {ar : mA} : isF (wM cI o ad iv ar) o RX12 145 (.ref (ad 58)) := ⟨0, 12, fM ad iv, RX12, TX12, 76, 58, rfl, rfl, inX12, by decide, fl12_58, rfl⟩
theorem aM_58 {cI : ClassId} {o : Nat} {ad : Nat → Nat} {iv : mI} {ar : mA} : isA cI (wM cI o ad iv ar) (ad 58) 2000 (ar 58) := ⟨44, rfl⟩
theorem sM_58 {cI : ClassId} {o : Nat} {ad : Nat → Nat} {iv : mI} {ar : mA} {i : Nat} {x : Int32} : isAs cI (wM cI o ad iv ar) (wM cI o ad iv (au ar 58 i x)) (ad 58) 2000 i x := ⟨44, ar 58, rfl, rfl⟩
theorem fl12_59 : Cond.fieldLink RX12 148 (TX12 59).1 (TX12 59).2.1 (TX12 59).2.2.1 ∈ gtb := in_gtb 1115 (by decide +kernel) (by decide +kernel)
theorem gM_59 {cI : ClassId} {o : Nat} {ad : Nat → Nat} {iv : mI} {ar : mA} : isF (wM cI o ad iv ar) o RX12 148 (.ref (ad 59)) := ⟨0, 12, fM ad iv, RX12, TX12, 76, 59, rfl, rfl, inX12, by decide, fl12_59, rfl⟩
theorem aM_59 {cI : ClassId} {o : Nat} {ad : Nat → Nat} {iv : mI} {ar : mA} : isA cI (wM cI o ad iv ar) (ad 59) 2000 (ar 59) := ⟨45, rfl⟩
theorem sM_59 {cI : ClassId} {o : Nat} {ad : Nat → Nat} {iv : mI} {ar : mA} {i : Nat} {x : Int32} : isAs cI (wM cI o ad iv ar) (wM cI o ad iv (au ar 59 i x)) (ad 59) 2000 i x := ⟨45, ar 59, rfl, rfl⟩
theorem fl12_60 : Cond.fieldLink RX12 151 (TX12 60).1 (TX12 60).2.1 (TX12 60).2.2.1 ∈ gtb := in_gtb 1116 (by decide +kernel) (by decide +kernel)
theorem gM_60 {cI : ClassId} {o : Nat} {ad : Nat → Nat} {iv : mI} {ar : mA} : isF (wM cI o ad iv ar) o RX12 151 (.ref (ad 60)) := ⟨0, 12, fM ad iv, RX12, TX12, 76, 60, rfl, rfl, inX12, by decide, fl12_60, rfl⟩
theorem aM_60 {cI : ClassId} {o : Nat} {ad : Nat → Nat} {iv : mI} {ar : mA} : isA cI (wM cI o ad iv ar) (ad 60) 16000 (ar 60) := ⟨46, rfl⟩
theorem sM_60 {cI : ClassId} {o : Nat} {ad : Nat → Nat} {iv : mI} {ar : mA} {i : Nat} {x : Int32} : isAs cI (wM cI o ad iv ar) (wM cI o ad iv (au ar 60 i x)) (ad 60) 16000 i x := ⟨46, ar 60, rfl, rfl⟩
theorem fl12_61 : Cond.fieldLink RX12 154 (TX12 61).1 (TX12 61).2.1 (TX12 61).2.2.1 ∈ gtb := in_gtb 1117 (by decide +kernel) (by decide +kernel)
theorem gM_61 {cI : ClassId} {o : Nat} {ad : Nat → Nat} {iv : mI} {ar : mA} : isF (wM cI o ad iv ar) o RX12 154 (.ref (ad 61)) := ⟨0, 12, fM ad iv, RX12, TX12, 76, 61, rfl, rfl, inX12, by decide, fl12_61, rfl⟩
theorem aM_61 {cI : ClassId} {o : Nat} {ad : Nat → Nat} {iv : mI} {ar : mA} : isA cI (wM cI o ad iv ar) (ad 61) 2000 (ar 61) := ⟨47, rfl⟩
theorem sM_61 {cI : ClassId} {o : Nat} {ad : Nat → Nat} {iv : mI} {ar : mA} {i : Nat} {x : Int32} : isAs cI (wM cI o ad iv ar) (wM cI o ad iv (au ar 61 i x)) (ad 61) 2000 i x := ⟨47, ar 61, rfl, rfl⟩
theorem fl12_62 : Cond.fieldLink RX12 157 (TX12 62).1 (TX12 62).2.1 (TX12 62).2.2.1 ∈ gtb := in_gtb 1118 (by decide +kernel) (by decide +kernel)
theorem gM_62 {cI : ClassId} {o : Nat} {ad : Nat → Nat} {iv : mI} {ar : mA} : isF (wM cI o ad iv ar) o RX12 157 (.ref (ad 62)) := ⟨0, 12, fM ad iv, RX12, TX12, 76, 62, rfl, rfl, inX12, by decide, fl12_62, rfl⟩
theorem aM_62 {cI : ClassId} {o : Nat} {ad : Nat → Nat} {iv : mI} {ar : mA} : isA cI (wM cI o ad iv ar) (ad 62) 2000 (ar 62) := ⟨48, rfl⟩
theorem sM_62 {cI : ClassId} {o : Nat} {ad : Nat → Nat} {iv : mI} {ar : mA} {i : Nat} {x : Int32} : isAs cI (wM cI o ad iv ar) (wM cI o ad iv (au ar 62 i x)) (ad 62) 2000 i x := ⟨48, ar 62, rfl, rfl⟩
theorem fl12_63 : Cond.fieldLink RX12 160 (TX12 63).1 (TX12 63).2.1 (TX12 63).2.2.1 ∈ gtb := in_gtb 1119 (by decide +kernel) (by decide +kernel)
theorem gM_63 {cI : ClassId} {o : Nat} {ad : Nat → Nat} {iv : mI} {ar : mA} : isF (wM cI o ad iv ar) o RX12 160 (.ref (ad 63)) := ⟨0, 12, fM ad iv, RX12, TX12, 76, 63, rfl, rfl, inX12, by decide, fl12_63, rfl⟩
theorem aM_63 {cI : ClassId} {o : Nat} {ad : Nat → Nat} {iv : mI} {ar : mA} : isA cI (wM cI o ad iv ar) (ad 63) 20400 (ar 63) := ⟨49, rfl⟩
theorem sM_63 {cI : ClassId} {o : Nat} {ad : Nat → Nat} {iv : mI} {ar : mA} {i : Nat} {x : Int32} : isAs cI (wM cI o ad iv ar) (wM cI o ad iv (au ar 63 i x)) (ad 63) 20400 i x := ⟨49, ar 63, rfl, rfl⟩
theorem fl12_64 : Cond.fieldLink RX12 163 (TX12 64).1 (TX12 64).2.1 (TX12 64).2.2.1 ∈ gtb := in_gtb 1120 (by decide +kernel) (by decide +kernel)
theorem gM_64 {cI : ClassId} {o : Nat} {ad : Nat → Nat} {iv : mI} {ar : mA} : isF (wM cI o ad iv ar) o RX12 163 (.ref (ad 64)) := ⟨0, 12, fM ad iv, RX12, TX12, 76, 64, rfl, rfl, inX12, by decide, fl12_64, rfl⟩
theorem aM_64 {cI : ClassId} {o : Nat} {ad : Nat → Nat} {iv : mI} {ar : mA} : isA cI (wM cI o ad iv ar) (ad 64) 20400 (ar 64) := ⟨50, rfl⟩
theorem sM_64 {cI : ClassId} {o : Nat} {ad : Nat → Nat} {iv : mI} {ar : mA} {i : Nat} {x : Int32} : isAs cI (wM cI o ad iv ar) (wM cI o ad iv (au ar 64 i x)) (ad 64) 20400 i x := ⟨50, ar 64, rfl, rfl⟩
theorem fl12_66 : Cond.fieldLink RX12 166 (TX12 66).1 (TX12 66).2.1 (TX12 66).2.2.1 ∈ gtb := in_gtb 1122 (by decide +kernel) (by decide +kernel)
theorem gM_66 {cI : ClassId} {o : Nat} {ad : Nat → Nat} {iv : mI} {ar : mA} : isF (wM cI o ad iv ar) o RX12 166 (.ref (ad 66)) := ⟨0, 12, fM ad iv, RX12, TX12, 76, 66, rfl, rfl, inX12, by decide, fl12_66, rfl⟩
theorem aM_66 {cI : ClassId} {o : Nat} {ad : Nat → Nat} {iv : mI} {ar : mA} : isA cI (wM cI o ad iv ar) (ad 66) 301 (ar 66) := ⟨51, rfl⟩
theorem sM_66 {cI : ClassId} {o : Nat} {ad : Nat → Nat} {iv : mI} {ar : mA} {i : Nat} {x : Int32} : isAs cI (wM cI o ad iv ar) (wM cI o ad iv (au ar 66 i x)) (ad 66) 301 i x := ⟨51, ar 66, rfl, rfl⟩
theorem fl12_67 : Cond.fieldLink RX12 169 (TX12 67).1 (TX12 67).2.1 (TX12 67).2.2.1 ∈ gtb := in_gtb 1123 (by decide +kernel) (by decide +kernel)
theorem gM_67 {cI : ClassId} {o : Nat} {ad : Nat → Nat} {iv : mI} {ar : mA} : isF (wM cI o ad iv ar) o RX12 169 (.ref (ad 67)) := ⟨0, 12, fM ad iv, RX12, TX12, 76, 67, rfl, rfl, inX12, by decide, fl12_67, rfl⟩
theorem aM_67 {cI : ClassId} {o : Nat} {ad : Nat → Nat} {iv : mI} {ar : mA} : isA cI (wM cI o ad iv ar) (ad 67) 301 (ar 67) := ⟨52, rfl⟩
theorem sM_67 {cI : ClassId} {o : Nat} {ad : Nat → Nat} {iv : mI} {ar : mA} {i : Nat} {x : Int32} : isAs cI (wM cI o ad iv ar) (wM cI o ad iv (au ar 67 i x)) (ad 67) 301 i x := ⟨52, ar 67, rfl, rfl⟩
theorem fl12_68 : Cond.fieldLink RX12 172 (TX12 68).1 (TX12 68).2.1 (TX12 68).2.2.1 ∈ gtb := in_gtb 1124 (by decide +kernel) (by decide +kernel)
theorem gM_68 {cI : ClassId} {o : Nat} {ad : Nat → Nat} {iv : mI} {ar : mA} : isF (wM cI o ad iv ar) o RX12 172 (.ref (ad 68)) := ⟨0, 12, fM ad iv, RX12, TX12, 76, 68, rfl, rfl, inX12, by decide, fl12_68, rfl⟩
theorem aM_68 {cI : ClassId} {o : Nat} {ad : Nat → Nat} {iv : mI} {ar : mA} : isA cI (wM cI o ad iv ar) (ad 68) 301 (ar 68) := ⟨53, rfl⟩
theorem sM_68 {cI : ClassId} {o : Nat} {ad : Nat → Nat} {iv : mI} {ar : mA} {i : Nat} {x : Int32} : isAs cI (wM cI o ad iv ar) (wM cI o ad iv (au ar 68 i x)) (ad 68) 301 i x := ⟨53, ar 68, rfl, rfl⟩
theorem fl12_69 : Cond.fieldLink RX12 175 (TX12 69).1 (TX12 69).2.1 (TX12 69).2.2.1 ∈ gtb := in_gtb 1125 (by decide +kernel) (by decide +kernel)
theorem gM_69 {cI : ClassId} {o : Nat} {ad : Nat → Nat} {iv : mI} {ar : mA} : isF (wM cI o ad iv ar) o RX12 175 (.ref (ad 69)) := ⟨0, 12, fM ad iv, RX12, TX12, 76, 69, rfl, rfl, inX12, by decide, fl12_69, rfl⟩
theorem aM_69 {cI : ClassId} {o : Nat} {ad : Nat → Nat} {iv : mI} {ar : mA} : isA cI (wM cI o ad iv ar) (ad 69) 301 (ar 69) := ⟨54, rfl⟩
theorem sM_69 {cI : ClassId} {o : Nat} {ad : Nat → Nat} {iv : mI} {ar : mA} {i : Nat} {x : Int32} : isAs cI (wM cI o ad iv ar) (wM cI o ad iv (au ar 69 i x)) (ad 69) 301 i x := ⟨54, ar 69, rfl, rfl⟩
theorem fl12_70 : Cond.fieldLink RX12 178 (TX12 70).1 (TX12 70).2.1 (TX12 70).2.2.1 ∈ gtb := in_gtb 1126 (by decide +kernel) (by decide +kernel)
theorem gM_70 {cI : ClassId} {o : Nat} {ad : Nat → Nat} {iv : mI} {ar : mA} : isF (wM cI o ad iv ar) o RX12 178 (.ref (ad 70)) := ⟨0, 12, fM ad iv, RX12, TX12, 76, 70, rfl, rfl, inX12, by decide, fl12_70, rfl⟩
theorem aM_70 {cI : ClassId} {o : Nat} {ad : Nat → Nat} {iv : mI} {ar : mA} : isA cI (wM cI o ad iv ar) (ad 70) 2709 (ar 70) := ⟨55, rfl⟩
theorem sM_70 {cI : ClassId} {o : Nat} {ad : Nat → Nat} {iv : mI} {ar : mA} {i : Nat} {x : Int32} : isAs cI (wM cI o ad iv ar) (wM cI o ad iv (au ar 70 i x)) (ad 70) 2709 i x := ⟨55, ar 70, rfl, rfl⟩
theorem fl12_3 : Cond.fieldLink RX12 181 (TX12 3).1 (TX12 3).2.1 (TX12 3).2.2.1 ∈ gtb := in_gtb 1059 (by decide +kernel) (by decide +kernel)
theorem gM_3 {cI : ClassId} {o : Nat} {ad : Nat → Nat} {iv : mI} {ar : mA} : isF (wM cI o ad iv ar) o RX12 181 (.int (iv 3)) := ⟨0, 12, fM ad iv, RX12, TX12, 76, 3, rfl, rfl, inX12, by decide, fl12_3, rfl⟩
theorem pM_3 {cI : ClassId} {o : Nat} {ad : Nat → Nat} {iv : mI} {ar : mA} {x : Int32} : isP (wM cI o ad iv ar) (wM cI o ad (va_up iv 3 x) ar) o RX12 181 (.int x) := ⟨0, 12, fM ad iv, RX12, TX12, 76, 3, tyX12, rfl, rfl, inX12, by decide, fl12_3, tyX12_ok, nmX12, rfl, rfl, rfl, (by decide : 3 < 76), rfl⟩
theorem fl12_30 : Cond.fieldLink RX12 188 (TX12 30).1 (TX12 30).2.1 (TX12 30).2.2.1 ∈ gtb := in_gtb 1086 (by decide +kernel) (by decide +kernel)
theorem gM_30 {cI : ClassId} {o : Nat} {ad : Nat → Nat} {iv : mI} {ar : mA} : isF (wM cI o ad iv ar) o RX12 188 (.int (iv 30)) := ⟨0, 12, fM ad iv, RX12, TX12, 76, 30, rfl, rfl, inX12, by decide, fl12_30, rfl⟩
theorem pM_30_0 {cI : ClassId} {o : Nat} {ad : Nat → Nat} {iv : mI} {ar : mA} : isP (wM cI o ad iv ar) (wM cI o ad (va_up iv 30 0) ar) o RX12 188 (.int 0) := ⟨0, 12, fM ad iv, RX12, TX12, 76, 30, tyX12, rfl, rfl, inX12, by decide, fl12_30, tyX12_ok, nmX12, rfl, by decide +kernel, by decide +kernel, (by decide : 30 < 76), rfl⟩
theorem pM_30_1 {cI : ClassId} {o : Nat} {ad : Nat → Nat} {iv : mI} {ar : mA} : isP (wM cI o ad iv ar) (wM cI o ad (va_up iv 30 1) ar) o RX12 188 (.int 1) := ⟨0, 12, fM ad iv, RX12, TX12, 76, 30, tyX12, rfl, rfl, inX12, by decide, fl12_30, tyX12_ok, nmX12, rfl, by decide +kernel, by decide +kernel, (by decide : 30 < 76), rfl⟩
theorem fl12_56 : Cond.fieldLink RX12 192 (TX12 56).1 (TX12 56).2.1 (TX12 56).2.2.1 ∈ gtb := in_gtb 1112 (by decide +kernel) (by decide +kernel)
theorem gM_56 {cI : ClassId} {o : Nat} {ad : Nat → Nat} {iv : mI} {ar : mA} : isF (wM cI o ad iv ar) o RX12 192 (.int (iv 56)) := ⟨0, 12, fM ad iv, RX12, TX12, 76, 56, rfl, rfl, inX12, by decide, fl12_56, rfl⟩
theorem pM_56 {cI : ClassId} {o : Nat} {ad : Nat → Nat} {iv : mI} {ar : mA} {x : Int32} : isP (wM cI o ad iv ar) (wM cI o ad (va_up iv 56 x) ar) o RX12 192 (.int x) := ⟨0, 12, fM ad iv, RX12, TX12, 76, 56, tyX12, rfl, rfl, inX12, by decide, fl12_56, tyX12_ok, nmX12, rfl, rfl, rfl, (by decide : 56 < 76), rfl⟩
theorem fl12_57 : Cond.fieldLink RX12 195 (TX12 57).1 (TX12 57).2.1 (TX12 57).2.2.1 ∈ gtb := in_gtb 1113 (by decide +kernel) (by decide +kernel)
theorem gM_57 {cI : ClassId} {o : Nat} {ad : Nat → Nat} {iv : mI} {ar : mA} : isF (wM cI o ad iv ar) o RX12 195 (.int (iv 57)) := ⟨0, 12, fM ad iv, RX12, TX12, 76, 57, rfl, rfl, inX12, by decide, fl12_57, rfl⟩
theorem pM_57 {cI : ClassId} {o : Nat} {ad : Nat → Nat} {iv : mI} {ar : mA} {x : Int32} : isP (wM cI o ad iv ar) (wM cI o ad (va_up iv 57 x) ar) o RX12 195 (.int x) := ⟨0, 12, fM ad iv, RX12, TX12, 76, 57, tyX12, rfl, rfl, inX12, by decide, fl12_57, tyX12_ok, nmX12, rfl, rfl, rfl, (by decide : 57 < 76), rfl⟩
theorem fl12_0 : Cond.fieldLink RX12 198 (TX12 0).1 (TX12 0).2.1 (TX12 0).2.2.1 ∈ gtb := in_gtb 1056 (by decide +kernel) (by decide +kernel)
theorem gM_0 {cI : ClassId} {o : Nat} {ad : Nat → Nat} {iv : mI} {ar : mA} : isF (wM cI o ad iv ar) o RX12 198 (.int (iv 0)) := ⟨0, 12, fM ad iv, RX12, TX12, 76, 0, rfl, rfl, inX12, by decide, fl12_0, rfl⟩
theorem pM_0 {cI : ClassId} {o : Nat} {ad : Nat → Nat} {iv : mI} {ar : mA} {x : Int32} : isP (wM cI o ad iv ar) (wM cI o ad (va_up iv 0 x) ar) o RX12 198 (.int x) := ⟨0, 12, fM ad iv, RX12, TX12, 76, 0, tyX12, rfl, rfl, inX12, by decide, fl12_0, tyX12_ok, nmX12, rfl, rfl, rfl, (by decide : 0 < 76), rfl⟩
theorem fl12_24 : Cond.fieldLink RX12 201 (TX12 24).1 (TX12 24).2.1 (TX12 24).2.2.1 ∈ gtb := in_gtb 1080 (by decide +kernel) (by decide +kernel)
theorem gM_24 {cI : ClassId} {o : Nat} {ad : Nat → Nat} {iv : mI} {ar : mA} : isF (wM cI o ad iv ar) o RX12 201 (.int (iv 24)) := ⟨0, 12, fM ad iv, RX12, TX12, 76, 24, rfl, rfl, inX12, by decide, fl12_24, rfl⟩
theorem pM_24 {cI : ClassId} {o : Nat} {ad : Nat → Nat} {iv : mI} {ar : mA} {x : Int32} : isP (wM cI o ad iv ar) (wM cI o ad (va_up iv 24 x) ar) o RX12 201 (.int x) := ⟨0, 12, fM ad iv, RX12, TX12, 76, 24, tyX12, rfl, rfl, inX12, by decide, fl12_24, tyX12_ok, nmX12, rfl, rfl, rfl, (by decide : 24 < 76), rfl⟩
theorem fl12_23 : Cond.fieldLink RX12 204 (TX12 23).1 (TX12 23).2.1 (TX12 23).2.2.1 ∈ gtb := in_gtb 1079 (by decide +kernel) (by decide +kernel)
theorem gM_23 {cI : ClassId} {o : Nat} {ad : Nat → Nat} {iv : mI} {ar : mA} : isF (wM cI o ad iv ar) o RX12 204 (.int (iv 23)) := ⟨0, 12, fM ad iv, RX12, TX12, 76, 23, rfl, rfl, inX12, by decide, fl12_23, rfl⟩
theorem pM_23 {cI : ClassId} {o : Nat} {ad : Nat → Nat} {iv : mI} {ar : mA} {x : Int32} : isP (wM cI o ad iv ar) (wM cI o ad (va_up iv 23 x) ar) o RX12 204 (.int x) := ⟨0, 12, fM ad iv, RX12, TX12, 76, 23, tyX12, rfl, rfl, inX12, by decide, fl12_23, tyX12_ok, nmX12, rfl, rfl, rfl, (by decide : 23 < 76), rfl⟩
theorem fl12_29 : Cond.fieldLink RX12 211 (TX12 29).1 (TX12 29).2.1 (TX12 29).2.2.1 ∈ gtb := in_gtb 1085 (by decide +kernel) (by decide +kernel)
theorem gM_29 {cI : ClassId} {o : Nat} {ad : Nat → Nat} {iv : mI} {ar : mA} : isF (wM cI o ad iv ar) o RX12 211 (.int (iv 29)) := ⟨0, 12, fM ad iv, RX12, TX12, 76, 29, rfl, rfl, inX12, by decide, fl12_29, rfl⟩
theorem pM_29 {cI : ClassId} {o : Nat} {ad : Nat → Nat} {iv : mI} {ar : mA} {x : Int32} : isP (wM cI o ad iv ar) (wM cI o ad (va_up iv 29 x) ar) o RX12 211 (.int x) := ⟨0, 12, fM ad iv, RX12, TX12, 76, 29, tyX12, rfl, rfl, inX12, by decide, fl12_29, tyX12_ok, nmX12, rfl, rfl, rfl, (by decide : 29 < 76), rfl⟩
theorem fl12_17 : Cond.fieldLink RX12 272 (TX12 17).1 (TX12 17).2.1 (TX12 17).2.2.1 ∈ gtb := in_gtb 1073 (by decide +kernel) (by decide +kernel)
theorem gM_17 {cI : ClassId} {o : Nat} {ad : Nat → Nat} {iv : mI} {ar : mA} : isF (wM cI o ad iv ar) o RX12 272 (.int (iv 17)) := ⟨0, 12, fM ad iv, RX12, TX12, 76, 17, rfl, rfl, inX12, by decide, fl12_17, rfl⟩
theorem pM_17 {cI : ClassId} {o : Nat} {ad : Nat → Nat} {iv : mI} {ar : mA} {x : Int32} : isP (wM cI o ad iv ar) (wM cI o ad (va_up iv 17 x) ar) o RX12 272 (.int x) := ⟨0, 12, fM ad iv, RX12, TX12, 76, 17, tyX12, rfl, rfl, inX12, by decide, fl12_17, tyX12_ok, nmX12, rfl, rfl, rfl, (by decide : 17 < 76), rfl⟩
theorem fl12_22 : Cond.fieldLink RX12 275 (TX12 22).1 (TX12 22).2.1 (TX12 22).2.2.1 ∈ gtb := in_gtb 1078 (by decide +kernel) (by decide +kernel)
theorem gM_22 {cI : ClassId} {o : Nat} {ad : Nat → Nat} {iv : mI} {ar : mA} : isF (wM cI o ad iv ar) o RX12 275 (.int (iv 22)) := ⟨0, 12, fM ad iv, RX12, TX12, 76, 22, rfl, rfl, inX12, by decide, fl12_22, rfl⟩
theorem pM_22 {cI : ClassId} {o : Nat} {ad : Nat → Nat} {iv : mI} {ar : mA} {x : Int32} : isP (wM cI o ad iv ar) (wM cI o ad (va_up iv 22 x) ar) o RX12 275 (.int x) := ⟨0, 12, fM ad iv, RX12, TX12, 76, 22, tyX12, rfl, rfl, inX12, by decide, fl12_22, tyX12_ok, nmX12, rfl, rfl, rfl, (by decide : 22 < 76), rfl⟩
theorem fl12_31 : Cond.fieldLink RX12 294 (TX12 31).1 (TX12 31).2.1 (TX12 31).2.2.1 ∈ gtb := in_gtb 1087 (by decide +kernel) (by decide +kernel)
theorem gM_31 {cI : ClassId} {o : Nat} {ad : Nat → Nat} {iv : mI} {ar : mA} : isF (wM cI o ad iv ar) o RX12 294 (.int (iv 31)) := ⟨0, 12, fM ad iv, RX12, TX12, 76, 31, rfl, rfl, inX12, by decide, fl12_31, rfl⟩
theorem pM_31 {cI : ClassId} {o : Nat} {ad : Nat → Nat} {iv : mI} {ar : mA} {x : Int32} : isP (wM cI o ad iv ar) (wM cI o ad (va_up iv 31 x) ar) o RX12 294 (.int x) := ⟨0, 12, fM ad iv, RX12, TX12, 76, 31, tyX12, rfl, rfl, inX12, by decide, fl12_31, tyX12_ok, nmX12, rfl, rfl, rfl, (by decide : 31 < 76), rfl⟩
theorem fl12_48 : Cond.fieldLink RX12 308 (TX12 48).1 (TX12 48).2.1 (TX12 48).2.2.1 ∈ gtb := in_gtb 1104 (by decide +kernel) (by decide +kernel)
theorem gM_48 {cI : ClassId} {o : Nat} {ad : Nat → Nat} {iv : mI} {ar : mA} : isF (wM cI o ad iv ar) o RX12 308 (.int (iv 48)) := ⟨0, 12, fM ad iv, RX12, TX12, 76, 48, rfl, rfl, inX12, by decide, fl12_48, rfl⟩
theorem pM_48 {cI : ClassId} {o : Nat} {ad : Nat → Nat} {iv : mI} {ar : mA} {x : Int32} : isP (wM cI o ad iv ar) (wM cI o ad (va_up iv 48 x) ar) o RX12 308 (.int x) := ⟨0, 12, fM ad iv, RX12, TX12, 76, 48, tyX12, rfl, rfl, inX12, by decide, fl12_48, tyX12_ok, nmX12, rfl, rfl, rfl, (by decide : 48 < 76), rfl⟩
theorem fl12_53 : Cond.fieldLink RX12 321 (TX12 53).1 (TX12 53).2.1 (TX12 53).2.2.1 ∈ gtb := in_gtb 1109 (by decide +kernel) (by decide +kernel)
theorem gM_53 {cI : ClassId} {o : Nat} {ad : Nat → Nat} {iv : mI} {ar : mA} : isF (wM cI o ad iv ar) o RX12 321 (.int (iv 53)) := ⟨0, 12, fM ad iv, RX12, TX12, 76, 53, rfl, rfl, inX12, by decide, fl12_53, rfl⟩
theorem pM_53 {cI : ClassId} {o : Nat} {ad : Nat → Nat} {iv : mI} {ar : mA} {x : Int32} : isP (wM cI o ad iv ar) (wM cI o ad (va_up iv 53 x) ar) o RX12 321 (.int x) := ⟨0, 12, fM ad iv, RX12, TX12, 76, 53, tyX12, rfl, rfl, inX12, by decide, fl12_53, tyX12_ok, nmX12, rfl, rfl, rfl, (by decide : 53 < 76), rfl⟩
theorem fl12_39 : Cond.fieldLink RX12 367 (TX12 39).1 (TX12 39).2.1 (TX12 39).2.2.1 ∈ gtb := in_gtb 1095 (by decide +kernel) (by decide +kernel)
theorem gM_39 {cI : ClassId} {o : Nat} {ad : Nat → Nat} {iv : mI} {ar : mA} : isF (wM cI o ad iv ar) o RX12 367 (.int (iv 39)) := ⟨0, 12, fM ad iv, RX12, TX12, 76, 39, rfl, rfl, inX12, by decide, fl12_39, rfl⟩
theorem pM_39 {cI : ClassId} {o : Nat} {ad : Nat → Nat} {iv : mI} {ar : mA} {x : Int32} : isP (wM cI o ad iv ar) (wM cI o ad (va_up iv 39 x) ar) o RX12 367 (.int x) := ⟨0, 12, fM ad iv, RX12, TX12, 76, 39, tyX12, rfl, rfl, inX12, by decide, fl12_39, tyX12_ok, nmX12, rfl, rfl, rfl, (by decide : 39 < 76), rfl⟩
theorem fl12_72 : Cond.fieldLink RX12 370 (TX12 72).1 (TX12 72).2.1 (TX12 72).2.2.1 ∈ gtb := in_gtb 1128 (by decide +kernel) (by decide +kernel)
theorem gM_72 {cI : ClassId} {o : Nat} {ad : Nat → Nat} {iv : mI} {ar : mA} : isF (wM cI o ad iv ar) o RX12 370 (.int (iv 72)) := ⟨0, 12, fM ad iv, RX12, TX12, 76, 72, rfl, rfl, inX12, by decide, fl12_72, rfl⟩
theorem pM_72 {cI : ClassId} {o : Nat} {ad : Nat → Nat} {iv : mI} {ar : mA} {x : Int32} : isP (wM cI o ad iv ar) (wM cI o ad (va_up iv 72 x) ar) o RX12 370 (.int x) := ⟨0, 12, fM ad iv, RX12, TX12, 76, 72, tyX12, rfl, rfl, inX12, by decide, fl12_72, tyX12_ok, nmX12, rfl, rfl, rfl, (by decide : 72 < 76), rfl⟩
theorem fl12_65 : Cond.fieldLink RX12 373 (TX12 65).1 (TX12 65).2.1 (TX12 65).2.2.1 ∈ gtb := in_gtb 1121 (by decide +kernel) (by decide +kernel)
theorem gM_65 {cI : ClassId} {o : Nat} {ad : Nat → Nat} {iv : mI} {ar : mA} : isF (wM cI o ad iv ar) o RX12 373 (.int (iv 65)) := ⟨0, 12, fM ad iv, RX12, TX12, 76, 65, rfl, rfl, inX12, by decide, fl12_65, rfl⟩
theorem pM_65 {cI : ClassId} {o : Nat} {ad : Nat → Nat} {iv : mI} {ar : mA} {x : Int32} : isP (wM cI o ad iv ar) (wM cI o ad (va_up iv 65 x) ar) o RX12 373 (.int x) := ⟨0, 12, fM ad iv, RX12, TX12, 76, 65, tyX12, rfl, rfl, inX12, by decide, fl12_65, tyX12_ok, nmX12, rfl, rfl, rfl, (by decide : 65 < 76), rfl⟩
theorem fl12_71 : Cond.fieldLink RX12 376 (TX12 71).1 (TX12 71).2.1 (TX12 71).2.2.1 ∈ gtb := in_gtb 1127 (by decide +kernel) (by decide +kernel)
theorem gM_71 {cI : ClassId} {o : Nat} {ad : Nat → Nat} {iv : mI} {ar : mA} : isF (wM cI o ad iv ar) o RX12 376 (.int (iv 71)) := ⟨0, 12, fM ad iv, RX12, TX12, 76, 71, rfl, rfl, inX12, by decide, fl12_71, rfl⟩
theorem pM_71 {cI : ClassId} {o : Nat} {ad : Nat → Nat} {iv : mI} {ar : mA} {x : Int32} : isP (wM cI o ad iv ar) (wM cI o ad (va_up iv 71 x) ar) o RX12 376 (.int x) := ⟨0, 12, fM ad iv, RX12, TX12, 76, 71, tyX12, rfl, rfl, inX12, by decide, fl12_71, tyX12_ok, nmX12, rfl, rfl, rfl, (by decide : 71 < 76), rfl⟩
theorem fl12_73 : Cond.fieldLink RX12 379 (TX12 73).1 (TX12 73).2.1 (TX12 73).2.2.1 ∈ gtb := in_gtb 1129 (by decide +kernel) (by decide +kernel)
theorem gM_73 {cI : ClassId} {o : Nat} {ad : Nat → Nat} {iv : mI} {ar : mA} : isF (wM cI o ad iv ar) o RX12 379 (.int (iv 73)) := ⟨0, 12, fM ad iv, RX12, TX12, 76, 73, rfl, rfl, inX12, by decide, fl12_73, rfl⟩
theorem pM_73 {cI : ClassId} {o : Nat} {ad : Nat → Nat} {iv : mI} {ar : mA} {x : Int32} : isP (wM cI o ad iv ar) (wM cI o ad (va_up iv 73 x) ar) o RX12 379 (.int x) := ⟨0, 12, fM ad iv, RX12, TX12, 76, 73, tyX12, rfl, rfl, inX12, by decide, fl12_73, tyX12_ok, nmX12, rfl, rfl, rfl, (by decide : 73 < 76), rfl⟩
theorem fl12_74 : Cond.fieldLink RX12 382 (TX12 74).1 (TX12 74).2.1 (TX12 74).2.2.1 ∈ gtb := in_gtb 1130 (by decide +kernel) (by decide +kernel)
theorem gM_74 {cI : ClassId} {o : Nat} {ad : Nat → Nat} {iv : mI} {ar : mA} : isF (wM cI o ad iv ar) o RX12 382 (.int (iv 74)) := ⟨0, 12, fM ad iv, RX12, TX12, 76, 74, rfl, rfl, inX12, by decide, fl12_74, rfl⟩
theorem pM_74 {cI : ClassId} {o : Nat} {ad : Nat → Nat} {iv : mI} {ar : mA} {x : Int32} : isP (wM cI o ad iv ar) (wM cI o ad (va_up iv 74 x) ar) o RX12 382 (.int x) := ⟨0, 12, fM ad iv, RX12, TX12, 76, 74, tyX12, rfl, rfl, inX12, by decide, fl12_74, tyX12_ok, nmX12, rfl, rfl, rfl, (by decide : 74 < 76), rfl⟩
theorem fl12_75 : Cond.fieldLink RX12 385 (TX12 75).1 (TX12 75).2.1 (TX12 75).2.2.1 ∈ gtb := in_gtb 1131 (by decide +kernel) (by decide +kernel)
theorem gM_75 {cI : ClassId} {o : Nat} {ad : Nat → Nat} {iv : mI} {ar : mA} : isF (wM cI o ad iv ar) o RX12 385 (.int (iv 75)) := ⟨0, 12, fM ad iv, RX12, TX12, 76, 75, rfl, rfl, inX12, by decide, fl12_75, rfl⟩
theorem pM_75 {cI : ClassId} {o : Nat} {ad : Nat → Nat} {iv : mI} {ar : mA} {x : Int32} : isP (wM cI o ad iv ar) (wM cI o ad (va_up iv 75 x) ar) o RX12 385 (.int x) := ⟨0, 12, fM ad iv, RX12, TX12, 76, 75, tyX12, rfl, rfl, inX12, by decide, fl12_75, tyX12_ok, nmX12, rfl, rfl, rfl, (by decide : 75 < 76), rfl⟩
theorem oM {cI : ClassId} {o : Nat} {ad : Nat → Nat} {iv : mI} {ar : mA} : isO (wM cI o ad iv ar) o RX12 := ⟨0, 12, fM ad iv, TX12, 76, rfl, rfl⟩
set_option maxRecDepth 100000 in
theorem stX12_in : isSt yX12_in cX12_in 3 (some .boolean) 3 := ⟨⟨in_gtb 1310 (by decide +kernel) (by decide +kernel), in_gtb 124 (by decide +kernel) (by decide +kernel), in_gtb 1311 rfl rfl⟩, by decide +kernel, by decide +kernel, by decide +kernel⟩
set_option maxRecDepth 100000 in
theorem mtX12_isNode : isM yX12_isNode cX12_isNode 2 (some .boolean) 1 := ⟨⟨in_gtb 1342 (by decide +kernel) (by decide +kernel), in_gtb 70 (by decide +kernel) (by decide +kernel), in_gtb 124 (by decide +kernel) (by decide +kernel), in_gtb 1343 rfl rfl⟩, by decide +kernel, by decide +kernel, by decide +kernel⟩
set_option maxRecDepth 100000 in
theorem mtX12_clear : isM yX12_clear cX12_clear 2 (some .int) 0 := ⟨⟨in_gtb 1286 (by decide +kernel) (by decide +kernel), in_gtb 1287 (by decide +kernel) (by decide +kernel), in_gtb 124 (by decide +kernel) (by decide +kernel), in_gtb 1288 rfl rfl⟩, by decide +kernel, by decide +kernel, by decide +kernel⟩
set_option maxRecDepth 100000 in
theorem mtX12_feed : isM yX12_feed cX12_feed 2 (some .int) 1 := ⟨⟨in_gtb 1290 (by decide +kernel) (by decide +kernel), in_gtb 1291 (by decide +kernel) (by decide +kernel), in_gtb 124 (by decide +kernel) (by decide +kernel), in_gtb 1292 rfl rfl⟩, by decide +kernel, by decide +kernel, by decide +kernel⟩
set_option maxRecDepth 100000 in
theorem mtX12_newNode : isM yX12_newNode cX12_newNode 4 (some .int) 2 := ⟨⟨in_gtb 1326 (by decide +kernel) (by decide +kernel), in_gtb 67 (by decide +kernel) (by decide +kernel), in_gtb 124 (by decide +kernel) (by decide +kernel), in_gtb 1327 rfl rfl⟩, by decide +kernel, by decide +kernel, by decide +kernel⟩
set_option maxRecDepth 100000 in
theorem mtX12_part : isM yX12_part cX12_part 3 (some .int) 2 := ⟨⟨in_gtb 1374 (by decide +kernel) (by decide +kernel), in_gtb 78 (by decide +kernel) (by decide +kernel), in_gtb 124 (by decide +kernel) (by decide +kernel), in_gtb 1375 rfl rfl⟩, by decide +kernel, by decide +kernel, by decide +kernel⟩
set_option maxRecDepth 100000 in
theorem mtX12_fail : isM yX12_fail cX12_fail 3 (some .int) 2 := ⟨⟨in_gtb 1307 (by decide +kernel) (by decide +kernel), in_gtb 63 (by decide +kernel) (by decide +kernel), in_gtb 124 (by decide +kernel) (by decide +kernel), in_gtb 1308 rfl rfl⟩, by decide +kernel, by decide +kernel, by decide +kernel⟩
set_option maxRecDepth 100000 in
theorem mtX12_take : isM yX12_take cX12_take 3 (some .int) 2 := ⟨⟨in_gtb 1303 (by decide +kernel) (by decide +kernel), in_gtb 62 (by decide +kernel) (by decide +kernel), in_gtb 124 (by decide +kernel) (by decide +kernel), in_gtb 1304 rfl rfl⟩, by decide +kernel, by decide +kernel, by decide +kernel⟩
set_option maxRecDepth 100000 in
theorem mtX12_pushFrame : isM yX12_pushFrame cX12_pushFrame 4 none 3 := ⟨⟨in_gtb 1314 (by decide +kernel) (by decide +kernel), in_gtb 64 (by decide +kernel) (by decide +kernel), in_gtb 124 (by decide +kernel) (by decide +kernel), in_gtb 1315 rfl rfl⟩, by decide +kernel, by decide +kernel, by decide +kernel⟩
set_option maxRecDepth 100000 in
theorem mtX12_takeLabel : isM yX12_takeLabel cX12_takeLabel 3 none 0 := ⟨⟨in_gtb 1330 (by decide +kernel) (by decide +kernel), in_gtb 68 (by decide +kernel) (by decide +kernel), in_gtb 124 (by decide +kernel) (by decide +kernel), in_gtb 1331 rfl rfl⟩, by decide +kernel, by decide +kernel, by decide +kernel⟩
set_option maxRecDepth 100000 in
theorem mtX12_settle : isM yX12_settle cX12_settle 5 (some .int) 1 := ⟨⟨in_gtb 1334 (by decide +kernel) (by decide +kernel), in_gtb 69 (by decide +kernel) (by decide +kernel), in_gtb 124 (by decide +kernel) (by decide +kernel), in_gtb 1335 rfl rfl⟩, by decide +kernel, by decide +kernel, by decide +kernel⟩
set_option maxRecDepth 100000 in
theorem mtX12_resolve : isM yX12_resolve cX12_resolve 3 none 1 := ⟨⟨in_gtb 1322 (by decide +kernel) (by decide +kernel), in_gtb 66 (by decide +kernel) (by decide +kernel), in_gtb 124 (by decide +kernel) (by decide +kernel), in_gtb 1323 rfl rfl⟩, by decide +kernel, by decide +kernel, by decide +kernel⟩
set_option maxRecDepth 100000 in
theorem mtX12_readWord : isM yX12_readWord cX12_readWord 5 (some .int) 0 := ⟨⟨in_gtb 1299 (by decide +kernel) (by decide +kernel), in_gtb 61 (by decide +kernel) (by decide +kernel), in_gtb 124 (by decide +kernel) (by decide +kernel), in_gtb 1300 rfl rfl⟩, by decide +kernel, by decide +kernel, by decide +kernel⟩
set_option maxRecDepth 100000 in
theorem mtX12_readName : isM yX12_readName cX12_readName 5 (some .int) 1 := ⟨⟨in_gtb 1318 (by decide +kernel) (by decide +kernel), in_gtb 65 (by decide +kernel) (by decide +kernel), in_gtb 124 (by decide +kernel) (by decide +kernel), in_gtb 1319 rfl rfl⟩, by decide +kernel, by decide +kernel, by decide +kernel⟩
set_option maxRecDepth 100000 in
theorem mtX12_type : isM yX12_type cX12_type 5 (some .int) 0 := ⟨⟨in_gtb 1294 (by decide +kernel) (by decide +kernel), in_gtb 1295 (by decide +kernel) (by decide +kernel), in_gtb 124 (by decide +kernel) (by decide +kernel), in_gtb 1296 rfl rfl⟩, by decide +kernel, by decide +kernel, by decide +kernel⟩
set_option maxRecDepth 100000 in
theorem mtX12_fits : isM yX12_fits cX12_fits 3 (some .boolean) 2 := ⟨⟨in_gtb 1358 (by decide +kernel) (by decide +kernel), in_gtb 74 (by decide +kernel) (by decide +kernel), in_gtb 124 (by decide +kernel) (by decide +kernel), in_gtb 1359 rfl rfl⟩, by decide +kernel, by decide +kernel, by decide +kernel⟩
set_option maxRecDepth 100000 in
theorem mtX12_wanted : isM yX12_wanted cX12_wanted 3 (some .int) 2 := ⟨⟨in_gtb 1366 (by decide +kernel) (by decide +kernel), in_gtb 76 (by decide +kernel) (by decide +kernel), in_gtb 124 (by decide +kernel) (by decide +kernel), in_gtb 1367 rfl rfl⟩, by decide +kernel, by decide +kernel, by decide +kernel⟩
set_option maxRecDepth 100000 in
theorem mtX12_nextPair : isM yX12_nextPair cX12_nextPair 7 (some .int) 3 := ⟨⟨in_gtb 1370 (by decide +kernel) (by decide +kernel), in_gtb 77 (by decide +kernel) (by decide +kernel), in_gtb 124 (by decide +kernel) (by decide +kernel), in_gtb 1371 rfl rfl⟩, by decide +kernel, by decide +kernel, by decide +kernel⟩
set_option maxRecDepth 100000 in
theorem mtX12_measure : isM yX12_measure cX12_measure 7 none 0 := ⟨⟨in_gtb 1354 (by decide +kernel) (by decide +kernel), in_gtb 73 (by decide +kernel) (by decide +kernel), in_gtb 124 (by decide +kernel) (by decide +kernel), in_gtb 1355 rfl rfl⟩, by decide +kernel, by decide +kernel, by decide +kernel⟩
set_option maxRecDepth 100000 in
theorem mtX12_addBack : isM yX12_addBack cX12_addBack 8 (some .int) 3 := ⟨⟨in_gtb 1362 (by decide +kernel) (by decide +kernel), in_gtb 75 (by decide +kernel) (by decide +kernel), in_gtb 124 (by decide +kernel) (by decide +kernel), in_gtb 1363 rfl rfl⟩, by decide +kernel, by decide +kernel, by decide +kernel⟩
set_option maxRecDepth 100000 in
theorem mtX12_farOf : isM yX12_farOf cX12_farOf 3 (some .int) 2 := ⟨⟨in_gtb 1350 (by decide +kernel) (by decide +kernel), in_gtb 72 (by decide +kernel) (by decide +kernel), in_gtb 124 (by decide +kernel) (by decide +kernel), in_gtb 1351 rfl rfl⟩, by decide +kernel, by decide +kernel, by decide +kernel⟩
set_option maxRecDepth 100000 in
theorem mtX12_isBelow : isM yX12_isBelow cX12_isBelow 3 (some .boolean) 2 := ⟨⟨in_gtb 1346 (by decide +kernel) (by decide +kernel), in_gtb 71 (by decide +kernel) (by decide +kernel), in_gtb 124 (by decide +kernel) (by decide +kernel), in_gtb 1347 rfl rfl⟩, by decide +kernel, by decide +kernel, by decide +kernel⟩
set_option maxRecDepth 100000 in
theorem mtX12_below : isM yX12_below cX12_below 3 (some .int) 2 := ⟨⟨in_gtb 1337 (by decide +kernel) (by decide +kernel), in_gtb 1338 (by decide +kernel) (by decide +kernel), in_gtb 124 (by decide +kernel) (by decide +kernel), in_gtb 1339 rfl rfl⟩, by decide +kernel, by decide +kernel, by decide +kernel⟩
set_option maxRecDepth 100000 in
theorem mtX12_depth : isM yX12_depth cX12_depth 3 (some .int) 2 := ⟨⟨in_gtb 1377 (by decide +kernel) (by decide +kernel), in_gtb 1378 (by decide +kernel) (by decide +kernel), in_gtb 124 (by decide +kernel) (by decide +kernel), in_gtb 1379 rfl rfl⟩, by decide +kernel, by decide +kernel, by decide +kernel⟩
set_option maxRecDepth 100000 in
theorem mtX12_way : isM yX12_way cX12_way 12 (some .int) 3 := ⟨⟨in_gtb 1381 (by decide +kernel) (by decide +kernel), in_gtb 1382 (by decide +kernel) (by decide +kernel), in_gtb 124 (by decide +kernel) (by decide +kernel), in_gtb 1383 rfl rfl⟩, by decide +kernel, by decide +kernel, by decide +kernel⟩
set_option maxRecDepth 100000 in
theorem mtX12_ask : isM yX12_ask cX12_ask 6 none 5 := ⟨⟨in_gtb 1394 (by decide +kernel) (by decide +kernel), in_gtb 80 (by decide +kernel) (by decide +kernel), in_gtb 124 (by decide +kernel) (by decide +kernel), in_gtb 1395 rfl rfl⟩, by decide +kernel, by decide +kernel, by decide +kernel⟩
set_option maxRecDepth 100000 in
theorem mtX12_simple : isM yX12_simple cX12_simple 6 (some .int) 3 := ⟨⟨in_gtb 1398 (by decide +kernel) (by decide +kernel), in_gtb 81 (by decide +kernel) (by decide +kernel), in_gtb 124 (by decide +kernel) (by decide +kernel), in_gtb 1399 rfl rfl⟩, by decide +kernel, by decide +kernel, by decide +kernel⟩
set_option maxRecDepth 100000 in
theorem mtX12_findMade : isM yX12_findMade cX12_findMade 5 (some .int) 3 := ⟨⟨in_gtb 1402 (by decide +kernel) (by decide +kernel), in_gtb 82 (by decide +kernel) (by decide +kernel), in_gtb 124 (by decide +kernel) (by decide +kernel), in_gtb 1403 rfl rfl⟩, by decide +kernel, by decide +kernel, by decide +kernel⟩
set_option maxRecDepth 100000 in
theorem mtX12_make : isM yX12_make cX12_make 14 (some .int) 3 := ⟨⟨in_gtb 1406 (by decide +kernel) (by decide +kernel), in_gtb 83 (by decide +kernel) (by decide +kernel), in_gtb 124 (by decide +kernel) (by decide +kernel), in_gtb 1407 rfl rfl⟩, by decide +kernel, by decide +kernel, by decide +kernel⟩
set_option maxRecDepth 100000 in
theorem mtX12_join : isM yX12_join cX12_join 12 (some .int) 3 := ⟨⟨in_gtb 1390 (by decide +kernel) (by decide +kernel), in_gtb 79 (by decide +kernel) (by decide +kernel), in_gtb 124 (by decide +kernel) (by decide +kernel), in_gtb 1391 rfl rfl⟩, by decide +kernel, by decide +kernel, by decide +kernel⟩
set_option maxRecDepth 100000 in
theorem mtX12_unite : isM yX12_unite cX12_unite 3 (some .int) 2 := ⟨⟨in_gtb 1385 (by decide +kernel) (by decide +kernel), in_gtb 1386 (by decide +kernel) (by decide +kernel), in_gtb 124 (by decide +kernel) (by decide +kernel), in_gtb 1387 rfl rfl⟩, by decide +kernel, by decide +kernel, by decide +kernel⟩
set_option maxRecDepth 100000 in
theorem mtX12_meet : isM yX12_meet cX12_meet 3 (some .int) 2 := ⟨⟨in_gtb 1409 (by decide +kernel) (by decide +kernel), in_gtb 1410 (by decide +kernel) (by decide +kernel), in_gtb 124 (by decide +kernel) (by decide +kernel), in_gtb 1411 rfl rfl⟩, by decide +kernel, by decide +kernel, by decide +kernel⟩
set_option maxRecDepth 100000 in
theorem mtX12_place : isM yX12_place cX12_place 1 (some .int) 0 := ⟨⟨in_gtb 1413 (by decide +kernel) (by decide +kernel), in_gtb 1414 (by decide +kernel) (by decide +kernel), in_gtb 124 (by decide +kernel) (by decide +kernel), in_gtb 1415 rfl rfl⟩, by decide +kernel, by decide +kernel, by decide +kernel⟩
set_option maxRecDepth 100000 in
theorem mtX12_node : isM yX12_node cX12_node 3 (some .int) 2 := ⟨⟨in_gtb 1417 (by decide +kernel) (by decide +kernel), in_gtb 1418 (by decide +kernel) (by decide +kernel), in_gtb 124 (by decide +kernel) (by decide +kernel), in_gtb 1419 rfl rfl⟩, by decide +kernel, by decide +kernel, by decide +kernel⟩
set_option maxRecDepth 100000 in
theorem stX12_wants : isSt yX12_wants cX12_wants 1 (some .int) 1 := ⟨⟨in_gtb 1433 (by decide +kernel) (by decide +kernel), in_gtb 124 (by decide +kernel) (by decide +kernel), in_gtb 1434 rfl rfl⟩, by decide +kernel, by decide +kernel, by decide +kernel⟩
set_option maxRecDepth 100000 in
theorem mtX12_takeNode : isM yX12_takeNode cX12_takeNode 1 none 0 := ⟨⟨in_gtb 1437 (by decide +kernel) (by decide +kernel), in_gtb 86 (by decide +kernel) (by decide +kernel), in_gtb 124 (by decide +kernel) (by decide +kernel), in_gtb 1438 rfl rfl⟩, by decide +kernel, by decide +kernel, by decide +kernel⟩
set_option maxRecDepth 100000 in
theorem mtX12_readTermWord : isM yX12_readTermWord cX12_readTermWord 7 (some .int) 2 := ⟨⟨in_gtb 1430 (by decide +kernel) (by decide +kernel), in_gtb 85 (by decide +kernel) (by decide +kernel), in_gtb 124 (by decide +kernel) (by decide +kernel), in_gtb 1431 rfl rfl⟩, by decide +kernel, by decide +kernel, by decide +kernel⟩
set_option maxRecDepth 100000 in
theorem mtX12_readChoice : isM yX12_readChoice cX12_readChoice 3 none 1 := ⟨⟨in_gtb 1443 (by decide +kernel) (by decide +kernel), in_gtb 87 (by decide +kernel) (by decide +kernel), in_gtb 124 (by decide +kernel) (by decide +kernel), in_gtb 1444 rfl rfl⟩, by decide +kernel, by decide +kernel, by decide +kernel⟩
set_option maxRecDepth 100000 in
theorem mtX12_isLabelled : isM yX12_isLabelled cX12_isLabelled 2 (some .boolean) 1 := ⟨⟨in_gtb 1447 (by decide +kernel) (by decide +kernel), in_gtb 88 (by decide +kernel) (by decide +kernel), in_gtb 124 (by decide +kernel) (by decide +kernel), in_gtb 1448 rfl rfl⟩, by decide +kernel, by decide +kernel, by decide +kernel⟩
set_option maxRecDepth 100000 in
theorem mtX12_readTerms : isM yX12_readTerms cX12_readTerms 8 none 0 := ⟨⟨in_gtb 1426 (by decide +kernel) (by decide +kernel), in_gtb 84 (by decide +kernel) (by decide +kernel), in_gtb 124 (by decide +kernel) (by decide +kernel), in_gtb 1427 rfl rfl⟩, by decide +kernel, by decide +kernel, by decide +kernel⟩
set_option maxRecDepth 100000 in
theorem mtX12_takeTermLabel : isM yX12_takeTermLabel cX12_takeTermLabel 4 none 1 := ⟨⟨in_gtb 1451 (by decide +kernel) (by decide +kernel), in_gtb 89 (by decide +kernel) (by decide +kernel), in_gtb 124 (by decide +kernel) (by decide +kernel), in_gtb 1452 rfl rfl⟩, by decide +kernel, by decide +kernel, by decide +kernel⟩
set_option maxRecDepth 100000 in
theorem mtX12_insideAt : isM yX12_insideAt cX12_insideAt 4 (some .int) 2 := ⟨⟨in_gtb 1475 (by decide +kernel) (by decide +kernel), in_gtb 95 (by decide +kernel) (by decide +kernel), in_gtb 124 (by decide +kernel) (by decide +kernel), in_gtb 1476 rfl rfl⟩, by decide +kernel, by decide +kernel, by decide +kernel⟩
set_option maxRecDepth 100000 in
theorem mtX12_typeInside : isM yX12_typeInside cX12_typeInside 3 (some .int) 2 := ⟨⟨in_gtb 1467 (by decide +kernel) (by decide +kernel), in_gtb 93 (by decide +kernel) (by decide +kernel), in_gtb 124 (by decide +kernel) (by decide +kernel), in_gtb 1468 rfl rfl⟩, by decide +kernel, by decide +kernel, by decide +kernel⟩
set_option maxRecDepth 100000 in
theorem mtX12_more : isM yX12_more cX12_more 2 (some .int) 1 := ⟨⟨in_gtb 1471 (by decide +kernel) (by decide +kernel), in_gtb 94 (by decide +kernel) (by decide +kernel), in_gtb 124 (by decide +kernel) (by decide +kernel), in_gtb 1472 rfl rfl⟩, by decide +kernel, by decide +kernel, by decide +kernel⟩
set_option maxRecDepth 100000 in
theorem mtX12_typeTerms : isM yX12_typeTerms cX12_typeTerms 6 none 0 := ⟨⟨in_gtb 1455 (by decide +kernel) (by decide +kernel), in_gtb 90 (by decide +kernel) (by decide +kernel), in_gtb 124 (by decide +kernel) (by decide +kernel), in_gtb 1456 rfl rfl⟩, by decide +kernel, by decide +kernel, by decide +kernel⟩
set_option maxRecDepth 100000 in
theorem mtX12_beginTyping : isM yX12_beginTyping cX12_beginTyping 3 none 2 := ⟨⟨in_gtb 1459 (by decide +kernel) (by decide +kernel), in_gtb 91 (by decide +kernel) (by decide +kernel), in_gtb 124 (by decide +kernel) (by decide +kernel), in_gtb 1460 rfl rfl⟩, by decide +kernel, by decide +kernel, by decide +kernel⟩
set_option maxRecDepth 100000 in
theorem mtX12_bindFor : isM yX12_bindFor cX12_bindFor 6 (some .int) 2 := ⟨⟨in_gtb 1463 (by decide +kernel) (by decide +kernel), in_gtb 92 (by decide +kernel) (by decide +kernel), in_gtb 124 (by decide +kernel) (by decide +kernel), in_gtb 1464 rfl rfl⟩, by decide +kernel, by decide +kernel, by decide +kernel⟩
set_option maxRecDepth 100000 in
theorem mtX12_misfit : isM yX12_misfit cX12_misfit 2 (some .int) 1 := ⟨⟨in_gtb 1487 (by decide +kernel) (by decide +kernel), in_gtb 98 (by decide +kernel) (by decide +kernel), in_gtb 124 (by decide +kernel) (by decide +kernel), in_gtb 1488 rfl rfl⟩, by decide +kernel, by decide +kernel, by decide +kernel⟩
set_option maxRecDepth 100000 in
theorem mtX12_isKind : isM yX12_isKind cX12_isKind 3 (some .boolean) 2 := ⟨⟨in_gtb 1491 (by decide +kernel) (by decide +kernel), in_gtb 99 (by decide +kernel) (by decide +kernel), in_gtb 124 (by decide +kernel) (by decide +kernel), in_gtb 1492 rfl rfl⟩, by decide +kernel, by decide +kernel, by decide +kernel⟩
set_option maxRecDepth 100000 in
theorem mtX12_typeDone : isM yX12_typeDone cX12_typeDone 5 (some .int) 2 := ⟨⟨in_gtb 1479 (by decide +kernel) (by decide +kernel), in_gtb 96 (by decide +kernel) (by decide +kernel), in_gtb 124 (by decide +kernel) (by decide +kernel), in_gtb 1480 rfl rfl⟩, by decide +kernel, by decide +kernel, by decide +kernel⟩
set_option maxRecDepth 100000 in
theorem mtX12_united : isM yX12_united cX12_united 4 (some .int) 2 := ⟨⟨in_gtb 1495 (by decide +kernel) (by decide +kernel), in_gtb 100 (by decide +kernel) (by decide +kernel), in_gtb 124 (by decide +kernel) (by decide +kernel), in_gtb 1496 rfl rfl⟩, by decide +kernel, by decide +kernel, by decide +kernel⟩
set_option maxRecDepth 100000 in
theorem mtX12_typeApplied : isM yX12_typeApplied cX12_typeApplied 3 (some .int) 1 := ⟨⟨in_gtb 1483 (by decide +kernel) (by decide +kernel), in_gtb 97 (by decide +kernel) (by decide +kernel), in_gtb 124 (by decide +kernel) (by decide +kernel), in_gtb 1484 rfl rfl⟩, by decide +kernel, by decide +kernel, by decide +kernel⟩
set_option maxRecDepth 100000 in
theorem mtX12_typeRecord : isM yX12_typeRecord cX12_typeRecord 5 (some .int) 1 := ⟨⟨in_gtb 1499 (by decide +kernel) (by decide +kernel), in_gtb 101 (by decide +kernel) (by decide +kernel), in_gtb 124 (by decide +kernel) (by decide +kernel), in_gtb 1500 rfl rfl⟩, by decide +kernel, by decide +kernel, by decide +kernel⟩
set_option maxRecDepth 100000 in
theorem mtX12_typeTaken : isM yX12_typeTaken cX12_typeTaken 6 (some .int) 1 := ⟨⟨in_gtb 1503 (by decide +kernel) (by decide +kernel), in_gtb 102 (by decide +kernel) (by decide +kernel), in_gtb 124 (by decide +kernel) (by decide +kernel), in_gtb 1504 rfl rfl⟩, by decide +kernel, by decide +kernel, by decide +kernel⟩
set_option maxRecDepth 100000 in
theorem mtX12_term : isM yX12_term cX12_term 4 (some .int) 0 := ⟨⟨in_gtb 1421 (by decide +kernel) (by decide +kernel), in_gtb 1422 (by decide +kernel) (by decide +kernel), in_gtb 124 (by decide +kernel) (by decide +kernel), in_gtb 1423 rfl rfl⟩, by decide +kernel, by decide +kernel, by decide +kernel⟩
set_option maxRecDepth 100000 in
theorem mtX12_newValue : isM yX12_newValue cX12_newValue 4 (some .int) 2 := ⟨⟨in_gtb 1531 (by decide +kernel) (by decide +kernel), in_gtb 108 (by decide +kernel) (by decide +kernel), in_gtb 124 (by decide +kernel) (by decide +kernel), in_gtb 1532 rfl rfl⟩, by decide +kernel, by decide +kernel, by decide +kernel⟩
set_option maxRecDepth 100000 in
theorem mtX12_bind : isM yX12_bind cX12_bind 3 (some .int) 2 := ⟨⟨in_gtb 1535 (by decide +kernel) (by decide +kernel), in_gtb 109 (by decide +kernel) (by decide +kernel), in_gtb 124 (by decide +kernel) (by decide +kernel), in_gtb 1536 rfl rfl⟩, by decide +kernel, by decide +kernel, by decide +kernel⟩
set_option maxRecDepth 100000 in
theorem mtX12_begin : isM yX12_begin cX12_begin 4 none 3 := ⟨⟨in_gtb 1511 (by decide +kernel) (by decide +kernel), in_gtb 103 (by decide +kernel) (by decide +kernel), in_gtb 124 (by decide +kernel) (by decide +kernel), in_gtb 1512 rfl rfl⟩, by decide +kernel, by decide +kernel, by decide +kernel⟩
set_option maxRecDepth 100000 in
theorem mtX12_run : isM yX12_run cX12_run 3 (some .int) 1 := ⟨⟨in_gtb 1506 (by decide +kernel) (by decide +kernel), in_gtb 1507 (by decide +kernel) (by decide +kernel), in_gtb 124 (by decide +kernel) (by decide +kernel), in_gtb 1508 rfl rfl⟩, by decide +kernel, by decide +kernel, by decide +kernel⟩
set_option maxRecDepth 100000 in
theorem mtX12_goOn : isM yX12_goOn cX12_goOn 4 (some .int) 0 := ⟨⟨in_gtb 1515 (by decide +kernel) (by decide +kernel), in_gtb 104 (by decide +kernel) (by decide +kernel), in_gtb 124 (by decide +kernel) (by decide +kernel), in_gtb 1516 rfl rfl⟩, by decide +kernel, by decide +kernel, by decide +kernel⟩
set_option maxRecDepth 100000 in
theorem mtX12_next : isM yX12_next cX12_next 4 none 3 := ⟨⟨in_gtb 1523 (by decide +kernel) (by decide +kernel), in_gtb 106 (by decide +kernel) (by decide +kernel), in_gtb 124 (by decide +kernel) (by decide +kernel), in_gtb 1524 rfl rfl⟩, by decide +kernel, by decide +kernel, by decide +kernel⟩
set_option maxRecDepth 100000 in
theorem mtX12_wantsMore : isM yX12_wantsMore cX12_wantsMore 6 (some .boolean) 2 := ⟨⟨in_gtb 1519 (by decide +kernel) (by decide +kernel), in_gtb 105 (by decide +kernel) (by decide +kernel), in_gtb 124 (by decide +kernel) (by decide +kernel), in_gtb 1520 rfl rfl⟩, by decide +kernel, by decide +kernel, by decide +kernel⟩
set_option maxRecDepth 100000 in
theorem mtX12_finish : isM yX12_finish cX12_finish 9 (some .int) 2 := ⟨⟨in_gtb 1527 (by decide +kernel) (by decide +kernel), in_gtb 107 (by decide +kernel) (by decide +kernel), in_gtb 124 (by decide +kernel) (by decide +kernel), in_gtb 1528 rfl rfl⟩, by decide +kernel, by decide +kernel, by decide +kernel⟩
set_option maxRecDepth 100000 in
theorem mtX12_finishMore : isM yX12_finishMore cX12_finishMore 8 (some .int) 4 := ⟨⟨in_gtb 1539 (by decide +kernel) (by decide +kernel), in_gtb 110 (by decide +kernel) (by decide +kernel), in_gtb 124 (by decide +kernel) (by decide +kernel), in_gtb 1540 rfl rfl⟩, by decide +kernel, by decide +kernel, by decide +kernel⟩
set_option maxRecDepth 100000 in
theorem mtX12_value : isM yX12_value cX12_value 3 (some .int) 2 := ⟨⟨in_gtb 1542 (by decide +kernel) (by decide +kernel), in_gtb 1543 (by decide +kernel) (by decide +kernel), in_gtb 124 (by decide +kernel) (by decide +kernel), in_gtb 1544 rfl rfl⟩, by decide +kernel, by decide +kernel, by decide +kernel⟩
set_option maxRecDepth 100000 in
theorem mtX12_count : isM yX12_count cX12_count 2 (some .int) 1 := ⟨⟨in_gtb 1546 (by decide +kernel) (by decide +kernel), in_gtb 1547 (by decide +kernel) (by decide +kernel), in_gtb 124 (by decide +kernel) (by decide +kernel), in_gtb 1548 rfl rfl⟩, by decide +kernel, by decide +kernel, by decide +kernel⟩
theorem cstX12_26 : Cond.constant RX12 26 (160000 : Int32) ∈ gtb := in_gtb 1054 (by decide +kernel) (by decide +kernel)
theorem cstX12_36 : Cond.constant RX12 36 (320000 : Int32) ∈ gtb := in_gtb 1055 (by decide +kernel) (by decide +kernel)
theorem lkX12_235 : Cond.methodLink RX12 235 yX12_readWord ∈ gtb := in_gtb 1297 (by decide +kernel) (by decide +kernel)
theorem lkX12_214 : Cond.methodLink RX12 214 yX12_take ∈ gtb := in_gtb 1301 (by decide +kernel) (by decide +kernel)
theorem lkX12_207 : Cond.methodLink RX12 207 yX12_fail ∈ gtb := in_gtb 1305 (by decide +kernel) (by decide +kernel)
theorem lkX12_184 : Cond.methodLink RX12 184 yX12_in ∈ gtb := in_gtb 1309 (by decide +kernel) (by decide +kernel)
theorem lkX12_220 : Cond.methodLink RX12 220 yX12_pushFrame ∈ gtb := in_gtb 1312 (by decide +kernel) (by decide +kernel)
theorem lkX12_224 : Cond.methodLink RX12 224 yX12_readName ∈ gtb := in_gtb 1316 (by decide +kernel) (by decide +kernel)
theorem lkX12_231 : Cond.methodLink RX12 231 yX12_resolve ∈ gtb := in_gtb 1320 (by decide +kernel) (by decide +kernel)
theorem lkX12_228 : Cond.methodLink RX12 228 yX12_newNode ∈ gtb := in_gtb 1324 (by decide +kernel) (by decide +kernel)
theorem lkX12_217 : Cond.methodLink RX12 217 yX12_takeLabel ∈ gtb := in_gtb 1328 (by decide +kernel) (by decide +kernel)
theorem lkX12_239 : Cond.methodLink RX12 239 yX12_settle ∈ gtb := in_gtb 1332 (by decide +kernel) (by decide +kernel)
theorem lkX12_265 : Cond.methodLink RX12 265 yX12_isNode ∈ gtb := in_gtb 1340 (by decide +kernel) (by decide +kernel)
theorem lkX12_269 : Cond.methodLink RX12 269 yX12_isBelow ∈ gtb := in_gtb 1344 (by decide +kernel) (by decide +kernel)
theorem lkX12_262 : Cond.methodLink RX12 262 yX12_farOf ∈ gtb := in_gtb 1348 (by decide +kernel) (by decide +kernel)
theorem lkX12_259 : Cond.methodLink RX12 259 yX12_measure ∈ gtb := in_gtb 1352 (by decide +kernel) (by decide +kernel)
theorem lkX12_245 : Cond.methodLink RX12 245 yX12_fits ∈ gtb := in_gtb 1356 (by decide +kernel) (by decide +kernel)
theorem lkX12_249 : Cond.methodLink RX12 249 yX12_addBack ∈ gtb := in_gtb 1360 (by decide +kernel) (by decide +kernel)
theorem lkX12_253 : Cond.methodLink RX12 253 yX12_wanted ∈ gtb := in_gtb 1364 (by decide +kernel) (by decide +kernel)
theorem lkX12_256 : Cond.methodLink RX12 256 yX12_nextPair ∈ gtb := in_gtb 1368 (by decide +kernel) (by decide +kernel)
theorem lkX12_242 : Cond.methodLink RX12 242 yX12_part ∈ gtb := in_gtb 1372 (by decide +kernel) (by decide +kernel)
theorem lkX12_291 : Cond.methodLink RX12 291 yX12_join ∈ gtb := in_gtb 1388 (by decide +kernel) (by decide +kernel)
theorem lkX12_278 : Cond.methodLink RX12 278 yX12_ask ∈ gtb := in_gtb 1392 (by decide +kernel) (by decide +kernel)
theorem lkX12_282 : Cond.methodLink RX12 282 yX12_simple ∈ gtb := in_gtb 1396 (by decide +kernel) (by decide +kernel)
theorem lkX12_285 : Cond.methodLink RX12 285 yX12_findMade ∈ gtb := in_gtb 1400 (by decide +kernel) (by decide +kernel)
theorem lkX12_288 : Cond.methodLink RX12 288 yX12_make ∈ gtb := in_gtb 1404 (by decide +kernel) (by decide +kernel)
theorem lkX12_361 : Cond.methodLink RX12 361 yX12_readTerms ∈ gtb := in_gtb 1424 (by decide +kernel) (by decide +kernel)
theorem lkX12_311 : Cond.methodLink RX12 311 yX12_readTermWord ∈ gtb := in_gtb 1428 (by decide +kernel) (by decide +kernel)
theorem lkX12_297 : Cond.methodLink RX12 297 yX12_wants ∈ gtb := in_gtb 1432 (by decide +kernel) (by decide +kernel)
theorem lkX12_300 : Cond.methodLink RX12 300 yX12_takeNode ∈ gtb := in_gtb 1435 (by decide +kernel) (by decide +kernel)
theorem cstX12_303 : Cond.constant RX12 303 (-2147483648 : Int32) ∈ gtb := in_gtb 1439 (by decide +kernel) (by decide +kernel)
theorem cstX12_304 : Cond.constant RX12 304 (2147483647 : Int32) ∈ gtb := in_gtb 1440 (by decide +kernel) (by decide +kernel)
theorem lkX12_305 : Cond.methodLink RX12 305 yX12_readChoice ∈ gtb := in_gtb 1441 (by decide +kernel) (by decide +kernel)
theorem lkX12_315 : Cond.methodLink RX12 315 yX12_isLabelled ∈ gtb := in_gtb 1445 (by decide +kernel) (by decide +kernel)
theorem lkX12_318 : Cond.methodLink RX12 318 yX12_takeTermLabel ∈ gtb := in_gtb 1449 (by decide +kernel) (by decide +kernel)
theorem lkX12_364 : Cond.methodLink RX12 364 yX12_typeTerms ∈ gtb := in_gtb 1453 (by decide +kernel) (by decide +kernel)
theorem lkX12_324 : Cond.methodLink RX12 324 yX12_beginTyping ∈ gtb := in_gtb 1457 (by decide +kernel) (by decide +kernel)
theorem lkX12_328 : Cond.methodLink RX12 328 yX12_bindFor ∈ gtb := in_gtb 1461 (by decide +kernel) (by decide +kernel)
theorem lkX12_337 : Cond.methodLink RX12 337 yX12_typeInside ∈ gtb := in_gtb 1465 (by decide +kernel) (by decide +kernel)
theorem lkX12_340 : Cond.methodLink RX12 340 yX12_more ∈ gtb := in_gtb 1469 (by decide +kernel) (by decide +kernel)
theorem lkX12_331 : Cond.methodLink RX12 331 yX12_insideAt ∈ gtb := in_gtb 1473 (by decide +kernel) (by decide +kernel)
theorem lkX12_334 : Cond.methodLink RX12 334 yX12_typeDone ∈ gtb := in_gtb 1477 (by decide +kernel) (by decide +kernel)
theorem lkX12_343 : Cond.methodLink RX12 343 yX12_typeApplied ∈ gtb := in_gtb 1481 (by decide +kernel) (by decide +kernel)
theorem lkX12_349 : Cond.methodLink RX12 349 yX12_misfit ∈ gtb := in_gtb 1485 (by decide +kernel) (by decide +kernel)
theorem lkX12_346 : Cond.methodLink RX12 346 yX12_isKind ∈ gtb := in_gtb 1489 (by decide +kernel) (by decide +kernel)
theorem lkX12_352 : Cond.methodLink RX12 352 yX12_united ∈ gtb := in_gtb 1493 (by decide +kernel) (by decide +kernel)
theorem lkX12_355 : Cond.methodLink RX12 355 yX12_typeRecord ∈ gtb := in_gtb 1497 (by decide +kernel) (by decide +kernel)
theorem lkX12_358 : Cond.methodLink RX12 358 yX12_typeTaken ∈ gtb := in_gtb 1501 (by decide +kernel) (by decide +kernel)
theorem lkX12_388 : Cond.methodLink RX12 388 yX12_begin ∈ gtb := in_gtb 1509 (by decide +kernel) (by decide +kernel)
theorem lkX12_391 : Cond.methodLink RX12 391 yX12_goOn ∈ gtb := in_gtb 1513 (by decide +kernel) (by decide +kernel)
theorem lkX12_394 : Cond.methodLink RX12 394 yX12_wantsMore ∈ gtb := in_gtb 1517 (by decide +kernel) (by decide +kernel)
theorem lkX12_400 : Cond.methodLink RX12 400 yX12_next ∈ gtb := in_gtb 1521 (by decide +kernel) (by decide +kernel)
theorem lkX12_397 : Cond.methodLink RX12 397 yX12_finish ∈ gtb := in_gtb 1525 (by decide +kernel) (by decide +kernel)
theorem lkX12_403 : Cond.methodLink RX12 403 yX12_newValue ∈ gtb := in_gtb 1529 (by decide +kernel) (by decide +kernel)
theorem lkX12_406 : Cond.methodLink RX12 406 yX12_bind ∈ gtb := in_gtb 1533 (by decide +kernel) (by decide +kernel)
theorem lkX12_409 : Cond.methodLink RX12 409 yX12_finishMore ∈ gtb := in_gtb 1537 (by decide +kernel) (by decide +kernel)
